/-! the calls that add a row -/
theorem bI_00 (b : Bool) : (bI b = zI 0) = (b = false) := bI_0 b
theorem Both_L {LW : LWt} {c : Nat} {a a' b : Option (Int32 × qMem)} (e : a = a') (h : Both LW c a' b) : Both LW c a b := e ▸ h
theorem gcnt1 {τ : qMem} {r a0 cnt : Nat} {x : Int32} {n : Int} (y z p q : Int32) (hc : cnt < a0 ∨ a0 + 1 ≤ cnt) (hn : gi τ r cnt = zI n) : ∀ k j, gi (si (si τ r a0 x) r cnt (gi (si τ r a0 x) r cnt + zI 1)) k j = if k = r ∧ j = cnt then zI (n + 1) else if k = r ∧ a0 ≤ j ∧ j < a0 + 1 then v5 x y z p q (j - a0) else gi τ k j := by
  have e := gch1 (τ := τ) (r := r) (a0 := a0) (x := x) y z p q r cnt
  rw [if_neg (by omega), hn] at e
  intro k j
  rw [gi_si, e, zI_add, gch1 y z p q]
theorem gcnt2 {τ : qMem} {r a0 a1 cnt : Nat} {x y : Int32} {n : Int} (z p q : Int32) (h1 : a1 = a0 + 1) (hc : cnt < a0 ∨ a0 + 2 ≤ cnt) (hn : gi τ r cnt = zI n) : ∀ k j, gi (si (si (si τ r a0 x) r a1 y) r cnt (gi (si (si τ r a0 x) r a1 y) r cnt + zI 1)) k j = if k = r ∧ j = cnt then zI (n + 1) else if k = r ∧ a0 ≤ j ∧ j < a0 + 2 then v5 x y z p q (j - a0) else gi τ k j := by
  have e := gch2 (τ := τ) (r := r) (a0 := a0) (x := x) (y := y) z p q h1 r cnt
  rw [if_neg (by omega), hn] at e
  intro k j
  rw [gi_si, e, zI_add, gch2 z p q h1]
theorem gcnt3 {τ : qMem} {r a0 a1 a2 cnt : Nat} {x y z : Int32} {n : Int} (p q : Int32) (h1 : a1 = a0 + 1) (h2 : a2 = a0 + 2) (hc : cnt < a0 ∨ a0 + 3 ≤ cnt) (hn : gi τ r cnt = zI n) : ∀ k j, gi (si (si (si (si τ r a0 x) r a1 y) r a2 z) r cnt (gi (si (si (si τ r a0 x) r a1 y) r a2 z) r cnt + zI 1)) k j = if k = r ∧ j = cnt then zI (n + 1) else if k = r ∧ a0 ≤ j ∧ j < a0 + 3 then v5 x y z p q (j - a0) else gi τ k j := by
  have e := gch3 (τ := τ) (r := r) (a0 := a0) (x := x) (y := y) (z := z) p q h1 h2 r cnt
  rw [if_neg (by omega), hn] at e
  intro k j
  rw [gi_si, e, zI_add, gch3 p q h1 h2]
theorem gcnt4 {τ : qMem} {r a0 a1 a2 a3 cnt : Nat} {x y z p : Int32} {n : Int} (q : Int32) (h1 : a1 = a0 + 1) (h2 : a2 = a0 + 2) (h3 : a3 = a0 + 3) (hc : cnt < a0 ∨ a0 + 4 ≤ cnt) (hn : gi τ r cnt = zI n) : ∀ k j, gi (si (si (si (si (si τ r a0 x) r a1 y) r a2 z) r a3 p) r cnt (gi (si (si (si (si τ r a0 x) r a1 y) r a2 z) r a3 p) r cnt + zI 1)) k j = if k = r ∧ j = cnt then zI (n + 1) else if k = r ∧ a0 ≤ j ∧ j < a0 + 4 then v5 x y z p q (j - a0) else gi τ k j := by
  have e := gch4 (τ := τ) (r := r) (a0 := a0) (x := x) (y := y) (z := z) (p := p) q h1 h2 h3 r cnt
  rw [if_neg (by omega), hn] at e
  intro k j
  rw [gi_si, e, zI_add, gch4 q h1 h2 h3]
theorem gcnt5 {τ : qMem} {r a0 a1 a2 a3 a4 cnt : Nat} {x y z p q : Int32} {n : Int} (h1 : a1 = a0 + 1) (h2 : a2 = a0 + 2) (h3 : a3 = a0 + 3) (h4 : a4 = a0 + 4) (hc : cnt < a0 ∨ a0 + 5 ≤ cnt) (hn : gi τ r cnt = zI n) : ∀ k j, gi (si (si (si (si (si (si τ r a0 x) r a1 y) r a2 z) r a3 p) r a4 q) r cnt (gi (si (si (si (si (si τ r a0 x) r a1 y) r a2 z) r a3 p) r a4 q) r cnt + zI 1)) k j = if k = r ∧ j = cnt then zI (n + 1) else if k = r ∧ a0 ≤ j ∧ j < a0 + 5 then v5 x y z p q (j - a0) else gi τ k j := by
  have e := gch5 (τ := τ) (r := r) (a0 := a0) (x := x) (y := y) (z := z) (p := p) (q := q) h1 h2 h3 h4 r cnt
  rw [if_neg (by omega), hn] at e
  intro k j
  rw [gi_si, e, zI_add, gch5 h1 h2 h3 h4]
theorem bookS_d {m m' : Nat → Nat → Int32} {B : Nat} (h : ∀ k j, (k = B + 3 ∨ k = B + 9 ∨ k = B + 18 ∨ k = B + 20 ∨ k = B + 22 ∨ k = B + 24 ∨ k = B + 26 ∨ k = B + 28 ∨ k = B + 30 ∨ k = B + 32 ∨ k = B + 35) → j ≤ 1 → m' k j = m k j) : bookS m' B = bookS m B := by
  unfold bookS rowS
  simp (disch := omega) only [h]
theorem e_addChg {σ : qMem} {k n : Nat} {w mo s : Int} (a b c d e : Int32) (hw : gi σ k 0 = zI w) (hm : gi σ k 1 = zI mo) (hs : gi σ k 3 = zI s) (h1 : 1 ≤ w) (h2 : w ≤ 5) (h3 : 0 ≤ s) (h4 : s < mo) (h5 : mo ≤ 100) (hn : w * mo ≤ n) :
    ∃ σ1, fX11_addChanging k n a b c d e σ = fX11_changed (zI s) σ1 ∧ ∀ k' j, gi σ1 k' j = if k' = k ∧ j = 3 then zI (s + 1) else if k' = k + 1 ∧ (s * w).toNat ≤ j ∧ j < (s * w).toNat + w.toNat then v5 a b c d e (j - (s * w).toNat) else gi σ k' j := by
  obtain ⟨σ1, e1, g1⟩ := e_add (n := n) a b c d e hw hm hs h1 h2 h3 h4 h5 hn
  refine ⟨σ1, ?_, g1⟩
  unfold fX11_addChanging
  rw [e_full hm hs h3 (by omega) h5, Option.bind_some, decide_eq_false (by omega), bI_f, if_pos rfl, e1, Option.bind_some, eta2]
theorem e_addChgF {σ : qMem} {k n : Nat} {mo s : Int} (a b c d e : Int32) (hm : gi σ k 1 = zI mo) (hs : gi σ k 3 = zI s) (h3 : 0 ≤ s) (h4 : s = mo) (h5 : mo ≤ 100) : fX11_addChanging k n a b c d e σ = fX11_refuse (zI (-5)) σ := by
  unfold fX11_addChanging
  rw [e_full hm hs h3 (by omega) h5, Option.bind_some, decide_eq_true (by omega), bI_t, if_neg (by decide), eta2]
  rfl
theorem e_addTo {σ : qMem} {k n : Nat} {w mo s : Int} (a b c d e : Int32) (hw : gi σ k 0 = zI w) (hm : gi σ k 1 = zI mo) (hs : gi σ k 3 = zI s) (h1 : 1 ≤ w) (h2 : w ≤ 5) (h3 : 0 ≤ s) (h4 : s < mo) (h5 : mo ≤ 100) (hn : w * mo ≤ n) :
    ∃ σ1, fX11_addTo k n a b c d e σ = fX11_accept (zI s) σ1 ∧ ∀ k' j, gi σ1 k' j = if k' = k ∧ j = 3 then zI (s + 1) else if k' = k + 1 ∧ (s * w).toNat ≤ j ∧ j < (s * w).toNat + w.toNat then v5 a b c d e (j - (s * w).toNat) else gi σ k' j := by
  obtain ⟨σ1, e1, g1⟩ := e_add (n := n) a b c d e hw hm hs h1 h2 h3 h4 h5 hn
  refine ⟨σ1, ?_, g1⟩
  unfold fX11_addTo
  rw [e_full hm hs h3 (by omega) h5, Option.bind_some, decide_eq_false (by omega), bI_f, if_pos rfl, e1, Option.bind_some, eta2]
theorem e_addToF {σ : qMem} {k n : Nat} {mo s : Int} (a b c d e : Int32) (hm : gi σ k 1 = zI mo) (hs : gi σ k 3 = zI s) (h3 : 0 ≤ s) (h4 : s = mo) (h5 : mo ≤ 100) : fX11_addTo k n a b c d e σ = fX11_refuse (zI (-5)) σ := by
  unfold fX11_addTo
  rw [e_full hm hs h3 (by omega) h5, Option.bind_some, decide_eq_true (by omega), bI_t, if_neg (by decide), eta2]
  rfl
theorem acc_heard {LW : LWt} {c : Nat} {σ τ σ1 τ1 : qMem} {a1 a2 a3 n : Int} {ans : Int32} (hLW : LWc LW) (hc : c ≤ 600) (h0 : Inv LW c σ τ) (hn : n = kI (τ.1 2) 300) (hm : n < 24) (r1 : 0 ≤ a1 ∧ a1 ≤ 1) (r2 : 0 ≤ a2 ∧ a2 ≤ 23) (r3 : 0 ≤ a3 ∧ a3 ≤ 79)
    (g1 : ∀ k' j, gi σ1 k' j = if k' = 19 ∧ j = 3 then zI (n + 1) else if k' = 19 + 1 ∧ (n * 3).toNat ≤ j ∧ j < (n * 3).toNat + ((3 : Int)).toNat then v5 (zI a1) (zI a2) (zI a3) 0 0 (j - (n * 3).toNat) else gi σ k' j)
    (g2 : ∀ k j, gi τ1 k j = if k = 2 ∧ j = 300 then zI (n + 1) else if k = 2 ∧ (80 + 3 * n).toNat ≤ j ∧ j < (80 + 3 * n).toNat + 3 then v5 (zI a1) (zI a2) (zI a3) 0 0 (j - (80 + 3 * n).toNat) else gi τ k j) : Both LW c (fX11_changed ans σ1) (fX12_good ans τ1) := by
  have h := h0
  obtain ⟨v, s1, s2, s3, s4, bk, kw, lw, im, tp, ms, rf, cc, rc, wo⟩ := h
  obtain ⟨t1, t2, t3, t4, t5, t6, t7, t8, t9, t10, t11, t12, t13⟩ := bk
  obtain ⟨k1, k2, k3, k4, k5, k6, k7, k8, k9, k10⟩ := kw
  have hn0 : 0 ≤ n := by have := k3.1; omega
  have om : ∀ k j, k ≠ 19 → k ≠ 20 → σ1.1 k j = σ.1 k j := fun k j q1 q2 => by
    show gi σ1 k j = gi σ k j
    rw [g1, if_neg (by omega), if_neg (by omega)]
  have ok : ∀ j, j ≠ 300 → ¬ ((80 + 3 * n).toNat ≤ j ∧ j < (80 + 3 * n).toNat + 3) → τ1.1 2 j = τ.1 2 j := fun j q1 q2 => by
    show gi τ1 2 j = gi τ 2 j
    rw [g2, if_neg (by omega), if_neg (by omega)]
  have on : τ1.1 2 300 = zI (n + 1) := by
    show gi τ1 2 300 = _
    rw [g2, if_pos ⟨rfl, rfl⟩]
  have ov : ∀ j, (80 + 3 * n).toNat ≤ j → j < (80 + 3 * n).toNat + 3 → τ1.1 2 j = v5 (zI a1) (zI a2) (zI a3) 0 0 (j - (80 + 3 * n).toNat) := fun j q1 q2 => by
    show gi τ1 2 j = _
    rw [g2, if_neg (by omega), if_pos ⟨rfl, q1, q2⟩]
  refine both_changed hLW hc h0 (fun k j q => ?_) (fun k j q => ?_) ?_ ?_ ?_ ?_
  · exact om k j (by omega) (by omega)
  · rw [g2, if_neg (by omega), if_neg (by omega)]
  · have : bookS σ1.1 1 = bookS σ.1 1 := bookS_d (fun k j q1 q3 => by
      show gi σ1 k j = gi σ k j
      rcases (by omega : k = 19 ∨ (k ≠ 19 ∧ k ≠ 20)) with q | q
      · rw [g1, if_neg (by omega), if_neg (by omega)]
      · exact om k j q.1 q.2)
    rw [this]; exact s1
  · refine ⟨?_, ?_, ?_, ?_, ?_, ?_, ?_, ?_, ?_, ?_, ?_, ?_, ?_⟩
    · exact boatT_k (by omega) k1 (fun j hj => ok j (by omega) (by omega)) (fun k j _ _ => om k j (by omega) (by omega)) t1
    · exact boatT_k (by omega) k1 (fun j hj => ok j (by omega) (by omega)) (fun k j _ _ => om k j (by omega) (by omega)) t2
    · exact ⟨(om _ _ (by omega) (by omega)).trans (t3.1.trans (ok _ (by omega) (by omega)).symm), fun j hj => (om _ _ (by omega) (by omega)).trans ((t3.2 j hj).trans (ok _ (by omega) (by omega)).symm)⟩
    · exact fun j hj => (om _ _ (by omega) (by omega)).trans ((t4 j hj).trans (ok _ (by omega) (by omega)).symm)
    · refine rowE_add (a := (n * 3).toNat) (w := 3) (v := v5 (zI a1) (zI a2) (zI a3) 0 0) (n := zI (n + 1)) ((g1 _ _).trans (if_pos ⟨rfl, rfl⟩)) (fun j => ?_) on (fun j q1 q2 => ?_) t5
      · have e := g1 20 j
        rw [if_neg (by omega)] at e
        by_cases q : (n * 3).toNat ≤ j ∧ j < (n * 3).toNat + 3
        · rw [if_pos ⟨rfl, q.1, q.2⟩] at e
          rw [if_pos q]
          exact e
        · rw [if_neg (fun z => q z.2)] at e
          rw [if_neg q]
          exact e
      · by_cases q : 80 + (n * 3).toNat ≤ j ∧ j < 80 + (n * 3).toNat + 3
        · rw [if_pos q, ov j (by omega) (by omega)]
          congr 1
          omega
        · rw [if_neg q]
          exact ok j (by omega) (by omega)
    · exact rowE_k (om _ _ (by omega) (by omega)) (fun j => om _ _ (by omega) (by omega)) (ok _ (by omega) (by omega)) (fun j _ _ => ok _ (by omega) (by omega)) t6
    · exact ⟨(om _ _ (by omega) (by omega)).trans (t7.1.trans (ok _ (by omega) (by omega)).symm), fun w hw => by
      have e : kI (τ1.1 2) 302 = kI (τ.1 2) 302 := kI_e (ok _ (by omega) (by omega))
      have b := k5.1
      rw [e] at hw
      rw [om _ _ (by omega) (by omega), om _ _ (by omega) (by omega), om _ _ (by omega) (by omega), om _ _ (by omega) (by omega), om _ _ (by omega) (by omega), ok (188 + 2 * w) (by omega) (by omega), ok (188 + 2 * w + 1) (by omega) (by omega)]
      exact t7.2 w hw⟩
    · exact rowE_k (om _ _ (by omega) (by omega)) (fun j => om _ _ (by omega) (by omega)) (ok _ (by omega) (by omega)) (fun j _ _ => ok _ (by omega) (by omega)) t8
    · exact rowE_k (om _ _ (by omega) (by omega)) (fun j => om _ _ (by omega) (by omega)) (ok _ (by omega) (by omega)) (fun j _ _ => ok _ (by omega) (by omega)) t9
    · exact rowE_k (om _ _ (by omega) (by omega)) (fun j => om _ _ (by omega) (by omega)) (ok _ (by omega) (by omega)) (fun j _ _ => ok _ (by omega) (by omega)) t10
    · exact rowE_k (om _ _ (by omega) (by omega)) (fun j => om _ _ (by omega) (by omega)) (ok _ (by omega) (by omega)) (fun j _ _ => ok _ (by omega) (by omega)) t11
    · exact rowE_k (om _ _ (by omega) (by omega)) (fun j => om _ _ (by omega) (by omega)) (ok _ (by omega) (by omega)) (fun j _ _ => ok _ (by omega) (by omega)) t12
    · exact (om _ _ (by omega) (by omega)).trans (t13.trans (ok _ (by omega) (by omega)).symm)
  · refine ⟨?_, ?_, ?_, ?_, ?_, ?_, ?_, ?_, ?_, ?_⟩
    · exact KB_k (fun j hj => ok j (by omega) (by omega)) k1
    · exact KT_k (fun j hj => ok j (by omega) (by omega)) k2
    · have e : kI (τ1.1 2) 300 = n + 1 := by
        show (τ1.1 2 300).toInt = _
        rw [on, zI_toInt (by omega) (by omega)]
      have nw : ∀ (i : Nat) (y : Int), i < 3 → y = 80 + 3 * n + i → kI (τ1.1 2) y = (v5 (zI a1) (zI a2) (zI a3) 0 0 i).toInt := fun i y q1 q2 => by
        show (τ1.1 2 y.toNat).toInt = _
        rw [ov _ (by omega) (by omega), show y.toNat - (80 + 3 * n).toNat = i by omega]
      unfold KH
      rw [e]
      refine ⟨by omega, fun x x0 x1 => ?_⟩
      by_cases q : x < n
      · rw [kI_e (κ := τ.1 2) (j := 80 + 3 * x) (ok _ (by omega) (by omega)), kI_e (κ := τ.1 2) (j := 80 + 3 * x + 1) (ok _ (by omega) (by omega)), kI_e (κ := τ.1 2) (j := 80 + 3 * x + 2) (ok _ (by omega) (by omega))]
        exact k3.2 x x0 (by omega)
      · rw [show kI (τ1.1 2) (80 + 3 * x) = a1 from (nw 0 (80 + 3 * x) (by omega) (by omega)).trans (zI_toInt (a := a1) (by omega) (by omega)), show kI (τ1.1 2) (80 + 3 * x + 1) = a2 from (nw 1 (80 + 3 * x + 1) (by omega) (by omega)).trans (zI_toInt (a := a2) (by omega) (by omega)), show kI (τ1.1 2) (80 + 3 * x + 2) = a3 from (nw 2 (80 + 3 * x + 2) (by omega) (by omega)).trans (zI_toInt (a := a3) (by omega) (by omega))]
        omega
    · exact KE_k (fun j hj => ok j (by omega) (by omega)) k4
    · exact KR_k (fun j hj => ok j (by omega) (by omega)) k5
    · exact KS_k (fun j hj => ok j (by omega) (by omega)) k6
    · exact KG_k (fun j hj => ok j (by omega) (by omega)) k7
    · exact KO_k (fun j hj => ok j (by omega) (by omega)) k8
    · exact KP_k (fun j hj => ok j (by omega) (by omega)) k9
    · exact KC_k (fun j hj => ok j (by omega) (by omega)) k10
  · exact hLW _ _ _ _ _ _ (lawE_c (fun k j q1 q2 _ => om k j (by omega) (by omega))) (fun j q1 q2 => ok j (by omega) (by omega)) lw
theorem acc_echo {LW : LWt} {c : Nat} {σ τ σ1 τ1 : qMem} {a1 a2 a3 n : Int} {ans : Int32} (hLW : LWc LW) (hc : c ≤ 600) (h0 : Inv LW c σ τ) (hn : n = kI (τ.1 2) 301) (hm : n < 12) (r1 : 0 ≤ a1 ∧ a1 ≤ 1) (r2 : 0 ≤ a2 ∧ a2 ≤ 23) (r3 : 0 ≤ a3 ∧ a3 ≤ 99)
    (g1 : ∀ k' j, gi σ1 k' j = if k' = 21 ∧ j = 3 then zI (n + 1) else if k' = 21 + 1 ∧ (n * 3).toNat ≤ j ∧ j < (n * 3).toNat + ((3 : Int)).toNat then v5 (zI a1) (zI a2) (zI a3) 0 0 (j - (n * 3).toNat) else gi σ k' j)
    (g2 : ∀ k j, gi τ1 k j = if k = 2 ∧ j = 301 then zI (n + 1) else if k = 2 ∧ (152 + 3 * n).toNat ≤ j ∧ j < (152 + 3 * n).toNat + 3 then v5 (zI a1) (zI a2) (zI a3) 0 0 (j - (152 + 3 * n).toNat) else gi τ k j) : Both LW c (fX11_changed ans σ1) (fX12_good ans τ1) := by
  have h := h0
  obtain ⟨v, s1, s2, s3, s4, bk, kw, lw, im, tp, ms, rf, cc, rc, wo⟩ := h
  obtain ⟨t1, t2, t3, t4, t5, t6, t7, t8, t9, t10, t11, t12, t13⟩ := bk
  obtain ⟨k1, k2, k3, k4, k5, k6, k7, k8, k9, k10⟩ := kw
  have hn0 : 0 ≤ n := by have := k4.1; omega
  have om : ∀ k j, k ≠ 21 → k ≠ 22 → σ1.1 k j = σ.1 k j := fun k j q1 q2 => by
    show gi σ1 k j = gi σ k j
    rw [g1, if_neg (by omega), if_neg (by omega)]
  have ok : ∀ j, j ≠ 301 → ¬ ((152 + 3 * n).toNat ≤ j ∧ j < (152 + 3 * n).toNat + 3) → τ1.1 2 j = τ.1 2 j := fun j q1 q2 => by
    show gi τ1 2 j = gi τ 2 j
    rw [g2, if_neg (by omega), if_neg (by omega)]
  have on : τ1.1 2 301 = zI (n + 1) := by
    show gi τ1 2 301 = _
    rw [g2, if_pos ⟨rfl, rfl⟩]
  have ov : ∀ j, (152 + 3 * n).toNat ≤ j → j < (152 + 3 * n).toNat + 3 → τ1.1 2 j = v5 (zI a1) (zI a2) (zI a3) 0 0 (j - (152 + 3 * n).toNat) := fun j q1 q2 => by
    show gi τ1 2 j = _
    rw [g2, if_neg (by omega), if_pos ⟨rfl, q1, q2⟩]
  refine both_changed hLW hc h0 (fun k j q => ?_) (fun k j q => ?_) ?_ ?_ ?_ ?_
  · exact om k j (by omega) (by omega)
  · rw [g2, if_neg (by omega), if_neg (by omega)]
  · have : bookS σ1.1 1 = bookS σ.1 1 := bookS_d (fun k j q1 q3 => by
      show gi σ1 k j = gi σ k j
      rcases (by omega : k = 21 ∨ (k ≠ 21 ∧ k ≠ 22)) with q | q
      · rw [g1, if_neg (by omega), if_neg (by omega)]
      · exact om k j q.1 q.2)
    rw [this]; exact s1
  · refine ⟨?_, ?_, ?_, ?_, ?_, ?_, ?_, ?_, ?_, ?_, ?_, ?_, ?_⟩
    · exact boatT_k (by omega) k1 (fun j hj => ok j (by omega) (by omega)) (fun k j _ _ => om k j (by omega) (by omega)) t1
    · exact boatT_k (by omega) k1 (fun j hj => ok j (by omega) (by omega)) (fun k j _ _ => om k j (by omega) (by omega)) t2
    · exact ⟨(om _ _ (by omega) (by omega)).trans (t3.1.trans (ok _ (by omega) (by omega)).symm), fun j hj => (om _ _ (by omega) (by omega)).trans ((t3.2 j hj).trans (ok _ (by omega) (by omega)).symm)⟩
    · exact fun j hj => (om _ _ (by omega) (by omega)).trans ((t4 j hj).trans (ok _ (by omega) (by omega)).symm)
    · exact rowE_k (om _ _ (by omega) (by omega)) (fun j => om _ _ (by omega) (by omega)) (ok _ (by omega) (by omega)) (fun j _ _ => ok _ (by omega) (by omega)) t5
    · refine rowE_add (a := (n * 3).toNat) (w := 3) (v := v5 (zI a1) (zI a2) (zI a3) 0 0) (n := zI (n + 1)) ((g1 _ _).trans (if_pos ⟨rfl, rfl⟩)) (fun j => ?_) on (fun j q1 q2 => ?_) t6
      · have e := g1 22 j
        rw [if_neg (by omega)] at e
        by_cases q : (n * 3).toNat ≤ j ∧ j < (n * 3).toNat + 3
        · rw [if_pos ⟨rfl, q.1, q.2⟩] at e
          rw [if_pos q]
          exact e
        · rw [if_neg (fun z => q z.2)] at e
          rw [if_neg q]
          exact e
      · by_cases q : 152 + (n * 3).toNat ≤ j ∧ j < 152 + (n * 3).toNat + 3
        · rw [if_pos q, ov j (by omega) (by omega)]
          congr 1
          omega
        · rw [if_neg q]
          exact ok j (by omega) (by omega)
    · exact ⟨(om _ _ (by omega) (by omega)).trans (t7.1.trans (ok _ (by omega) (by omega)).symm), fun w hw => by
      have e : kI (τ1.1 2) 302 = kI (τ.1 2) 302 := kI_e (ok _ (by omega) (by omega))
      have b := k5.1
      rw [e] at hw
      rw [om _ _ (by omega) (by omega), om _ _ (by omega) (by omega), om _ _ (by omega) (by omega), om _ _ (by omega) (by omega), om _ _ (by omega) (by omega), ok (188 + 2 * w) (by omega) (by omega), ok (188 + 2 * w + 1) (by omega) (by omega)]
      exact t7.2 w hw⟩
    · exact rowE_k (om _ _ (by omega) (by omega)) (fun j => om _ _ (by omega) (by omega)) (ok _ (by omega) (by omega)) (fun j _ _ => ok _ (by omega) (by omega)) t8
    · exact rowE_k (om _ _ (by omega) (by omega)) (fun j => om _ _ (by omega) (by omega)) (ok _ (by omega) (by omega)) (fun j _ _ => ok _ (by omega) (by omega)) t9
    · exact rowE_k (om _ _ (by omega) (by omega)) (fun j => om _ _ (by omega) (by omega)) (ok _ (by omega) (by omega)) (fun j _ _ => ok _ (by omega) (by omega)) t10
    · exact rowE_k (om _ _ (by omega) (by omega)) (fun j => om _ _ (by omega) (by omega)) (ok _ (by omega) (by omega)) (fun j _ _ => ok _ (by omega) (by omega)) t11
    · exact rowE_k (om _ _ (by omega) (by omega)) (fun j => om _ _ (by omega) (by omega)) (ok _ (by omega) (by omega)) (fun j _ _ => ok _ (by omega) (by omega)) t12
    · exact (om _ _ (by omega) (by omega)).trans (t13.trans (ok _ (by omega) (by omega)).symm)
  · refine ⟨?_, ?_, ?_, ?_, ?_, ?_, ?_, ?_, ?_, ?_⟩
    · exact KB_k (fun j hj => ok j (by omega) (by omega)) k1
    · exact KT_k (fun j hj => ok j (by omega) (by omega)) k2
    · exact KH_k (fun j hj => ok j (by omega) (by omega)) k3
    · have e : kI (τ1.1 2) 301 = n + 1 := by
        show (τ1.1 2 301).toInt = _
        rw [on, zI_toInt (by omega) (by omega)]
      have nw : ∀ (i : Nat) (y : Int), i < 3 → y = 152 + 3 * n + i → kI (τ1.1 2) y = (v5 (zI a1) (zI a2) (zI a3) 0 0 i).toInt := fun i y q1 q2 => by
        show (τ1.1 2 y.toNat).toInt = _
        rw [ov _ (by omega) (by omega), show y.toNat - (152 + 3 * n).toNat = i by omega]
      unfold KE
      rw [e]
      refine ⟨by omega, fun x x0 x1 => ?_⟩
      by_cases q : x < n
      · rw [kI_e (κ := τ.1 2) (j := 152 + 3 * x) (ok _ (by omega) (by omega)), kI_e (κ := τ.1 2) (j := 152 + 3 * x + 1) (ok _ (by omega) (by omega)), kI_e (κ := τ.1 2) (j := 152 + 3 * x + 2) (ok _ (by omega) (by omega))]
        exact k4.2 x x0 (by omega)
      · rw [show kI (τ1.1 2) (152 + 3 * x) = a1 from (nw 0 (152 + 3 * x) (by omega) (by omega)).trans (zI_toInt (a := a1) (by omega) (by omega)), show kI (τ1.1 2) (152 + 3 * x + 1) = a2 from (nw 1 (152 + 3 * x + 1) (by omega) (by omega)).trans (zI_toInt (a := a2) (by omega) (by omega)), show kI (τ1.1 2) (152 + 3 * x + 2) = a3 from (nw 2 (152 + 3 * x + 2) (by omega) (by omega)).trans (zI_toInt (a := a3) (by omega) (by omega))]
        omega
    · exact KR_k (fun j hj => ok j (by omega) (by omega)) k5
    · exact KS_k (fun j hj => ok j (by omega) (by omega)) k6
    · exact KG_k (fun j hj => ok j (by omega) (by omega)) k7
    · exact KO_k (fun j hj => ok j (by omega) (by omega)) k8
    · exact KP_k (fun j hj => ok j (by omega) (by omega)) k9
    · exact KC_k (fun j hj => ok j (by omega) (by omega)) k10
  · exact hLW _ _ _ _ _ _ (lawE_c (fun k j q1 q2 _ => om k j (by omega) (by omega))) (fun j q1 q2 => ok j (by omega) (by omega)) lw
theorem acc_wreck {LW : LWt} {c : Nat} {σ τ σ1 τ1 : qMem} {a1 a2 n : Int} {ans : Int32} (hLW : LWc LW) (hc : c ≤ 600) (h0 : Inv LW c σ τ) (hn : n = kI (τ.1 2) 302) (hm : n < 8) (r1 : 0 ≤ a1 ∧ a1 ≤ 31) (r2 : 0 ≤ a2 ∧ a2 ≤ 31)
    (g1 : ∀ k' j, gi σ1 k' j = if k' = 23 ∧ j = 3 then zI (n + 1) else if k' = 23 + 1 ∧ (n * 5).toNat ≤ j ∧ j < (n * 5).toNat + ((5 : Int)).toNat then v5 (zI a1) (zI a2) 0 0 23 (j - (n * 5).toNat) else gi σ k' j)
    (g2 : ∀ k j, gi τ1 k j = if k = 2 ∧ j = 302 then zI (n + 1) else if k = 2 ∧ (188 + 2 * n).toNat ≤ j ∧ j < (188 + 2 * n).toNat + 2 then v5 (zI a1) (zI a2) 0 0 0 (j - (188 + 2 * n).toNat) else gi τ k j) : Both LW c (fX11_changed ans σ1) (fX12_good ans τ1) := by
  have h := h0
  obtain ⟨v, s1, s2, s3, s4, bk, kw, lw, im, tp, ms, rf, cc, rc, wo⟩ := h
  obtain ⟨t1, t2, t3, t4, t5, t6, t7, t8, t9, t10, t11, t12, t13⟩ := bk
  obtain ⟨k1, k2, k3, k4, k5, k6, k7, k8, k9, k10⟩ := kw
  have hn0 : 0 ≤ n := by have := k5.1; omega
  have om : ∀ k j, k ≠ 23 → k ≠ 24 → σ1.1 k j = σ.1 k j := fun k j q1 q2 => by
    show gi σ1 k j = gi σ k j
    rw [g1, if_neg (by omega), if_neg (by omega)]
  have ok : ∀ j, j ≠ 302 → ¬ ((188 + 2 * n).toNat ≤ j ∧ j < (188 + 2 * n).toNat + 2) → τ1.1 2 j = τ.1 2 j := fun j q1 q2 => by
    show gi τ1 2 j = gi τ 2 j
    rw [g2, if_neg (by omega), if_neg (by omega)]
  have on : τ1.1 2 302 = zI (n + 1) := by
    show gi τ1 2 302 = _
    rw [g2, if_pos ⟨rfl, rfl⟩]
  have ov : ∀ j, (188 + 2 * n).toNat ≤ j → j < (188 + 2 * n).toNat + 2 → τ1.1 2 j = v5 (zI a1) (zI a2) 0 0 0 (j - (188 + 2 * n).toNat) := fun j q1 q2 => by
    show gi τ1 2 j = _
    rw [g2, if_neg (by omega), if_pos ⟨rfl, q1, q2⟩]
  refine both_changed hLW hc h0 (fun k j q => ?_) (fun k j q => ?_) ?_ ?_ ?_ ?_
  · exact om k j (by omega) (by omega)
  · rw [g2, if_neg (by omega), if_neg (by omega)]
  · have : bookS σ1.1 1 = bookS σ.1 1 := bookS_d (fun k j q1 q3 => by
      show gi σ1 k j = gi σ k j
      rcases (by omega : k = 23 ∨ (k ≠ 23 ∧ k ≠ 24)) with q | q
      · rw [g1, if_neg (by omega), if_neg (by omega)]
      · exact om k j q.1 q.2)
    rw [this]; exact s1
  · refine ⟨?_, ?_, ?_, ?_, ?_, ?_, ?_, ?_, ?_, ?_, ?_, ?_, ?_⟩
    · exact boatT_k (by omega) k1 (fun j hj => ok j (by omega) (by omega)) (fun k j _ _ => om k j (by omega) (by omega)) t1
    · exact boatT_k (by omega) k1 (fun j hj => ok j (by omega) (by omega)) (fun k j _ _ => om k j (by omega) (by omega)) t2
    · exact ⟨(om _ _ (by omega) (by omega)).trans (t3.1.trans (ok _ (by omega) (by omega)).symm), fun j hj => (om _ _ (by omega) (by omega)).trans ((t3.2 j hj).trans (ok _ (by omega) (by omega)).symm)⟩
    · exact fun j hj => (om _ _ (by omega) (by omega)).trans ((t4 j hj).trans (ok _ (by omega) (by omega)).symm)
    · exact rowE_k (om _ _ (by omega) (by omega)) (fun j => om _ _ (by omega) (by omega)) (ok _ (by omega) (by omega)) (fun j _ _ => ok _ (by omega) (by omega)) t5
    · exact rowE_k (om _ _ (by omega) (by omega)) (fun j => om _ _ (by omega) (by omega)) (ok _ (by omega) (by omega)) (fun j _ _ => ok _ (by omega) (by omega)) t6
    · refine ⟨?_, fun x hx => ?_⟩
      · have e : σ1.1 23 3 = zI (n + 1) := (g1 23 3).trans (if_pos ⟨rfl, rfl⟩)
        exact e.trans on.symm
      · have e : kI (τ1.1 2) 302 = n + 1 := by
          show (τ1.1 2 302).toInt = _
          rw [on, zI_toInt (by omega) (by omega)]
        rw [e] at hx
        have gm : ∀ j, (n * 5).toNat ≤ j → j < (n * 5).toNat + 5 → σ1.1 24 j = v5 (zI a1) (zI a2) 0 0 23 (j - (n * 5).toNat) := fun j q1 q2 => by
          show gi σ1 24 j = _
          rw [g1, if_neg (by omega), if_pos ⟨rfl, q1, q2⟩]
        have go : ∀ j, ¬ ((n * 5).toNat ≤ j ∧ j < (n * 5).toNat + 5) → σ1.1 24 j = σ.1 24 j := fun j q1 => by
          show gi σ1 24 j = gi σ 24 j
          rw [g1, if_neg (by omega), if_neg (fun z => q1 z.2)]
        show σ1.1 24 _ = _ ∧ σ1.1 24 _ = _ ∧ σ1.1 24 _ = _ ∧ σ1.1 24 _ = _ ∧ σ1.1 24 _ = _
        by_cases q : (x : Int) < n
        · rw [go _ (by omega), go _ (by omega), go _ (by omega), go _ (by omega), go _ (by omega), ok (188 + 2 * x) (by omega) (by omega), ok (188 + 2 * x + 1) (by omega) (by omega)]
          exact t7.2 x (by omega)
        · rw [gm _ (by omega) (by omega), gm _ (by omega) (by omega), gm _ (by omega) (by omega), gm _ (by omega) (by omega), gm _ (by omega) (by omega), ov (188 + 2 * x) (by omega) (by omega), ov (188 + 2 * x + 1) (by omega) (by omega)]
          rw [show 5 * x - (n * 5).toNat = 0 by omega, show 5 * x + 1 - (n * 5).toNat = 1 by omega, show 5 * x + 2 - (n * 5).toNat = 2 by omega, show 5 * x + 3 - (n * 5).toNat = 3 by omega, show 5 * x + 4 - (n * 5).toNat = 4 by omega, show 188 + 2 * x - (188 + 2 * n).toNat = 0 by omega, show 188 + 2 * x + 1 - (188 + 2 * n).toNat = 1 by omega]
          exact ⟨rfl, rfl, rfl, rfl, rfl⟩
    · exact rowE_k (om _ _ (by omega) (by omega)) (fun j => om _ _ (by omega) (by omega)) (ok _ (by omega) (by omega)) (fun j _ _ => ok _ (by omega) (by omega)) t8
    · exact rowE_k (om _ _ (by omega) (by omega)) (fun j => om _ _ (by omega) (by omega)) (ok _ (by omega) (by omega)) (fun j _ _ => ok _ (by omega) (by omega)) t9
    · exact rowE_k (om _ _ (by omega) (by omega)) (fun j => om _ _ (by omega) (by omega)) (ok _ (by omega) (by omega)) (fun j _ _ => ok _ (by omega) (by omega)) t10
    · exact rowE_k (om _ _ (by omega) (by omega)) (fun j => om _ _ (by omega) (by omega)) (ok _ (by omega) (by omega)) (fun j _ _ => ok _ (by omega) (by omega)) t11
    · exact rowE_k (om _ _ (by omega) (by omega)) (fun j => om _ _ (by omega) (by omega)) (ok _ (by omega) (by omega)) (fun j _ _ => ok _ (by omega) (by omega)) t12
    · exact (om _ _ (by omega) (by omega)).trans (t13.trans (ok _ (by omega) (by omega)).symm)
  · refine ⟨?_, ?_, ?_, ?_, ?_, ?_, ?_, ?_, ?_, ?_⟩
    · exact KB_k (fun j hj => ok j (by omega) (by omega)) k1
    · exact KT_k (fun j hj => ok j (by omega) (by omega)) k2
    · exact KH_k (fun j hj => ok j (by omega) (by omega)) k3
    · exact KE_k (fun j hj => ok j (by omega) (by omega)) k4
    · have e : kI (τ1.1 2) 302 = n + 1 := by
        show (τ1.1 2 302).toInt = _
        rw [on, zI_toInt (by omega) (by omega)]
      have nw : ∀ (i : Nat) (y : Int), i < 2 → y = 188 + 2 * n + i → kI (τ1.1 2) y = (v5 (zI a1) (zI a2) 0 0 0 i).toInt := fun i y q1 q2 => by
        show (τ1.1 2 y.toNat).toInt = _
        rw [ov _ (by omega) (by omega), show y.toNat - (188 + 2 * n).toNat = i by omega]
      unfold KR
      rw [e]
      refine ⟨by omega, fun x x0 x1 => ?_⟩
      by_cases q : x < n
      · rw [kI_e (κ := τ.1 2) (j := 188 + 2 * x) (ok _ (by omega) (by omega)), kI_e (κ := τ.1 2) (j := 188 + 2 * x + 1) (ok _ (by omega) (by omega))]
        exact k5.2 x x0 (by omega)
      · rw [show kI (τ1.1 2) (188 + 2 * x) = a1 from (nw 0 (188 + 2 * x) (by omega) (by omega)).trans (zI_toInt (a := a1) (by omega) (by omega)), show kI (τ1.1 2) (188 + 2 * x + 1) = a2 from (nw 1 (188 + 2 * x + 1) (by omega) (by omega)).trans (zI_toInt (a := a2) (by omega) (by omega))]
        omega
    · exact KS_k (fun j hj => ok j (by omega) (by omega)) k6
    · exact KG_k (fun j hj => ok j (by omega) (by omega)) k7
    · exact KO_k (fun j hj => ok j (by omega) (by omega)) k8
    · exact KP_k (fun j hj => ok j (by omega) (by omega)) k9
    · exact KC_k (fun j hj => ok j (by omega) (by omega)) k10
  · exact hLW _ _ _ _ _ _ (lawE_c (fun k j q1 q2 _ => om k j (by omega) (by omega))) (fun j q1 q2 => ok j (by omega) (by omega)) lw
theorem acc_shoal {LW : LWt} {c : Nat} {σ τ σ1 τ1 : qMem} {a1 a2 a3 a4 a5 n : Int} {ans : Int32} (hLW : LWc LW) (hc : c ≤ 600) (h0 : Inv LW c σ τ) (hn : n = kI (τ.1 2) 308) (hm : n < 6) (r1 : 0 ≤ a1 ∧ a1 ≤ 31) (r2 : 0 ≤ a2 ∧ a2 ≤ 31) (r3 : 0 ≤ a3 ∧ a3 ≤ 9) (r4 : 0 ≤ a4 ∧ a4 ≤ 23) (r5 : 0 ≤ a5 ∧ a5 ≤ 23)
    (g1 : ∀ k' j, gi σ1 k' j = if k' = 25 ∧ j = 3 then zI (n + 1) else if k' = 25 + 1 ∧ (n * 5).toNat ≤ j ∧ j < (n * 5).toNat + ((5 : Int)).toNat then v5 (zI a1) (zI a2) (zI a3) (zI a4) (zI a5) (j - (n * 5).toNat) else gi σ k' j)
    (g2 : ∀ k j, gi τ1 k j = if k = 2 ∧ j = 308 then zI (n + 1) else if k = 2 ∧ (238 + 5 * n).toNat ≤ j ∧ j < (238 + 5 * n).toNat + 5 then v5 (zI a1) (zI a2) (zI a3) (zI a4) (zI a5) (j - (238 + 5 * n).toNat) else gi τ k j) : Both LW c (fX11_changed ans σ1) (fX12_good ans τ1) := by
  have h := h0
  obtain ⟨v, s1, s2, s3, s4, bk, kw, lw, im, tp, ms, rf, cc, rc, wo⟩ := h
  obtain ⟨t1, t2, t3, t4, t5, t6, t7, t8, t9, t10, t11, t12, t13⟩ := bk
  obtain ⟨k1, k2, k3, k4, k5, k6, k7, k8, k9, k10⟩ := kw
  have hn0 : 0 ≤ n := by have := k6.1; omega
  have om : ∀ k j, k ≠ 25 → k ≠ 26 → σ1.1 k j = σ.1 k j := fun k j q1 q2 => by
    show gi σ1 k j = gi σ k j
    rw [g1, if_neg (by omega), if_neg (by omega)]
  have ok : ∀ j, j ≠ 308 → ¬ ((238 + 5 * n).toNat ≤ j ∧ j < (238 + 5 * n).toNat + 5) → τ1.1 2 j = τ.1 2 j := fun j q1 q2 => by
    show gi τ1 2 j = gi τ 2 j
    rw [g2, if_neg (by omega), if_neg (by omega)]
  have on : τ1.1 2 308 = zI (n + 1) := by
    show gi τ1 2 308 = _
    rw [g2, if_pos ⟨rfl, rfl⟩]
  have ov : ∀ j, (238 + 5 * n).toNat ≤ j → j < (238 + 5 * n).toNat + 5 → τ1.1 2 j = v5 (zI a1) (zI a2) (zI a3) (zI a4) (zI a5) (j - (238 + 5 * n).toNat) := fun j q1 q2 => by
    show gi τ1 2 j = _
    rw [g2, if_neg (by omega), if_pos ⟨rfl, q1, q2⟩]
  refine both_changed hLW hc h0 (fun k j q => ?_) (fun k j q => ?_) ?_ ?_ ?_ ?_
  · exact om k j (by omega) (by omega)
  · rw [g2, if_neg (by omega), if_neg (by omega)]
  · have : bookS σ1.1 1 = bookS σ.1 1 := bookS_d (fun k j q1 q3 => by
      show gi σ1 k j = gi σ k j
      rcases (by omega : k = 25 ∨ (k ≠ 25 ∧ k ≠ 26)) with q | q
      · rw [g1, if_neg (by omega), if_neg (by omega)]
      · exact om k j q.1 q.2)
    rw [this]; exact s1
  · refine ⟨?_, ?_, ?_, ?_, ?_, ?_, ?_, ?_, ?_, ?_, ?_, ?_, ?_⟩
    · exact boatT_k (by omega) k1 (fun j hj => ok j (by omega) (by omega)) (fun k j _ _ => om k j (by omega) (by omega)) t1
    · exact boatT_k (by omega) k1 (fun j hj => ok j (by omega) (by omega)) (fun k j _ _ => om k j (by omega) (by omega)) t2
    · exact ⟨(om _ _ (by omega) (by omega)).trans (t3.1.trans (ok _ (by omega) (by omega)).symm), fun j hj => (om _ _ (by omega) (by omega)).trans ((t3.2 j hj).trans (ok _ (by omega) (by omega)).symm)⟩
    · exact fun j hj => (om _ _ (by omega) (by omega)).trans ((t4 j hj).trans (ok _ (by omega) (by omega)).symm)
    · exact rowE_k (om _ _ (by omega) (by omega)) (fun j => om _ _ (by omega) (by omega)) (ok _ (by omega) (by omega)) (fun j _ _ => ok _ (by omega) (by omega)) t5
    · exact rowE_k (om _ _ (by omega) (by omega)) (fun j => om _ _ (by omega) (by omega)) (ok _ (by omega) (by omega)) (fun j _ _ => ok _ (by omega) (by omega)) t6
    · exact ⟨(om _ _ (by omega) (by omega)).trans (t7.1.trans (ok _ (by omega) (by omega)).symm), fun w hw => by
      have e : kI (τ1.1 2) 302 = kI (τ.1 2) 302 := kI_e (ok _ (by omega) (by omega))
      have b := k5.1
      rw [e] at hw
      rw [om _ _ (by omega) (by omega), om _ _ (by omega) (by omega), om _ _ (by omega) (by omega), om _ _ (by omega) (by omega), om _ _ (by omega) (by omega), ok (188 + 2 * w) (by omega) (by omega), ok (188 + 2 * w + 1) (by omega) (by omega)]
      exact t7.2 w hw⟩
    · refine rowE_add (a := (n * 5).toNat) (w := 5) (v := v5 (zI a1) (zI a2) (zI a3) (zI a4) (zI a5)) (n := zI (n + 1)) ((g1 _ _).trans (if_pos ⟨rfl, rfl⟩)) (fun j => ?_) on (fun j q1 q2 => ?_) t8
      · have e := g1 26 j
        rw [if_neg (by omega)] at e
        by_cases q : (n * 5).toNat ≤ j ∧ j < (n * 5).toNat + 5
        · rw [if_pos ⟨rfl, q.1, q.2⟩] at e
          rw [if_pos q]
          exact e
        · rw [if_neg (fun z => q z.2)] at e
          rw [if_neg q]
          exact e
      · by_cases q : 238 + (n * 5).toNat ≤ j ∧ j < 238 + (n * 5).toNat + 5
        · rw [if_pos q, ov j (by omega) (by omega)]
          congr 1
          omega
        · rw [if_neg q]
          exact ok j (by omega) (by omega)
    · exact rowE_k (om _ _ (by omega) (by omega)) (fun j => om _ _ (by omega) (by omega)) (ok _ (by omega) (by omega)) (fun j _ _ => ok _ (by omega) (by omega)) t9
    · exact rowE_k (om _ _ (by omega) (by omega)) (fun j => om _ _ (by omega) (by omega)) (ok _ (by omega) (by omega)) (fun j _ _ => ok _ (by omega) (by omega)) t10
    · exact rowE_k (om _ _ (by omega) (by omega)) (fun j => om _ _ (by omega) (by omega)) (ok _ (by omega) (by omega)) (fun j _ _ => ok _ (by omega) (by omega)) t11
    · exact rowE_k (om _ _ (by omega) (by omega)) (fun j => om _ _ (by omega) (by omega)) (ok _ (by omega) (by omega)) (fun j _ _ => ok _ (by omega) (by omega)) t12
    · exact (om _ _ (by omega) (by omega)).trans (t13.trans (ok _ (by omega) (by omega)).symm)
  · refine ⟨?_, ?_, ?_, ?_, ?_, ?_, ?_, ?_, ?_, ?_⟩
    · exact KB_k (fun j hj => ok j (by omega) (by omega)) k1
    · exact KT_k (fun j hj => ok j (by omega) (by omega)) k2
    · exact KH_k (fun j hj => ok j (by omega) (by omega)) k3
    · exact KE_k (fun j hj => ok j (by omega) (by omega)) k4
    · exact KR_k (fun j hj => ok j (by omega) (by omega)) k5
    · have e : kI (τ1.1 2) 308 = n + 1 := by
        show (τ1.1 2 308).toInt = _
        rw [on, zI_toInt (by omega) (by omega)]
      have nw : ∀ (i : Nat) (y : Int), i < 5 → y = 238 + 5 * n + i → kI (τ1.1 2) y = (v5 (zI a1) (zI a2) (zI a3) (zI a4) (zI a5) i).toInt := fun i y q1 q2 => by
        show (τ1.1 2 y.toNat).toInt = _
        rw [ov _ (by omega) (by omega), show y.toNat - (238 + 5 * n).toNat = i by omega]
      unfold KS
      rw [e]
      refine ⟨by omega, fun x x0 x1 => ?_⟩
      by_cases q : x < n
      · rw [kI_e (κ := τ.1 2) (j := 238 + 5 * x) (ok _ (by omega) (by omega)), kI_e (κ := τ.1 2) (j := 238 + 5 * x + 1) (ok _ (by omega) (by omega)), kI_e (κ := τ.1 2) (j := 238 + 5 * x + 2) (ok _ (by omega) (by omega)), kI_e (κ := τ.1 2) (j := 238 + 5 * x + 3) (ok _ (by omega) (by omega)), kI_e (κ := τ.1 2) (j := 238 + 5 * x + 4) (ok _ (by omega) (by omega))]
        exact k6.2 x x0 (by omega)
      · rw [show kI (τ1.1 2) (238 + 5 * x) = a1 from (nw 0 (238 + 5 * x) (by omega) (by omega)).trans (zI_toInt (a := a1) (by omega) (by omega)), show kI (τ1.1 2) (238 + 5 * x + 1) = a2 from (nw 1 (238 + 5 * x + 1) (by omega) (by omega)).trans (zI_toInt (a := a2) (by omega) (by omega)), show kI (τ1.1 2) (238 + 5 * x + 2) = a3 from (nw 2 (238 + 5 * x + 2) (by omega) (by omega)).trans (zI_toInt (a := a3) (by omega) (by omega)), show kI (τ1.1 2) (238 + 5 * x + 3) = a4 from (nw 3 (238 + 5 * x + 3) (by omega) (by omega)).trans (zI_toInt (a := a4) (by omega) (by omega)), show kI (τ1.1 2) (238 + 5 * x + 4) = a5 from (nw 4 (238 + 5 * x + 4) (by omega) (by omega)).trans (zI_toInt (a := a5) (by omega) (by omega))]
        omega
    · exact KG_k (fun j hj => ok j (by omega) (by omega)) k7
    · exact KO_k (fun j hj => ok j (by omega) (by omega)) k8
    · exact KP_k (fun j hj => ok j (by omega) (by omega)) k9
    · exact KC_k (fun j hj => ok j (by omega) (by omega)) k10
  · exact hLW _ _ _ _ _ _ (lawE_c (fun k j q1 q2 _ => om k j (by omega) (by omega))) (fun j q1 q2 => ok j (by omega) (by omega)) lw
theorem acc_guess {LW : LWt} {c : Nat} {σ τ σ1 τ1 : qMem} {a1 a2 a3 a4 n : Int} {ans : Int32} (hLW : LWc LW) (hc : c ≤ 600) (h0 : Inv LW c σ τ) (hn : n = kI (τ.1 2) 309) (hm : n < 8) (r1 : 0 ≤ a1 ∧ a1 ≤ 31) (r2 : 0 ≤ a2 ∧ a2 ≤ 31) (r3 : -3 ≤ a3 ∧ a3 ≤ 3) (r4 : -3 ≤ a4 ∧ a4 ≤ 3)
    (g1 : ∀ k' j, gi σ1 k' j = if k' = 27 ∧ j = 3 then zI (n + 1) else if k' = 27 + 1 ∧ (n * 4).toNat ≤ j ∧ j < (n * 4).toNat + ((4 : Int)).toNat then v5 (zI a1) (zI a2) (zI a3) (zI a4) 0 (j - (n * 4).toNat) else gi σ k' j)
    (g2 : ∀ k j, gi τ1 k j = if k = 2 ∧ j = 309 then zI (n + 1) else if k = 2 ∧ (268 + 4 * n).toNat ≤ j ∧ j < (268 + 4 * n).toNat + 4 then v5 (zI a1) (zI a2) (zI a3) (zI a4) 0 (j - (268 + 4 * n).toNat) else gi τ k j) : Both LW c (fX11_accept ans σ1) (fX12_good ans τ1) := by
  have h := h0
  obtain ⟨v, s1, s2, s3, s4, bk, kw, lw, im, tp, ms, rf, cc, rc, wo⟩ := h
  obtain ⟨t1, t2, t3, t4, t5, t6, t7, t8, t9, t10, t11, t12, t13⟩ := bk
  obtain ⟨k1, k2, k3, k4, k5, k6, k7, k8, k9, k10⟩ := kw
  have hn0 : 0 ≤ n := by have := k7.1; omega
  have om : ∀ k j, k ≠ 27 → k ≠ 28 → σ1.1 k j = σ.1 k j := fun k j q1 q2 => by
    show gi σ1 k j = gi σ k j
    rw [g1, if_neg (by omega), if_neg (by omega)]
  have ok : ∀ j, j ≠ 309 → ¬ ((268 + 4 * n).toNat ≤ j ∧ j < (268 + 4 * n).toNat + 4) → τ1.1 2 j = τ.1 2 j := fun j q1 q2 => by
    show gi τ1 2 j = gi τ 2 j
    rw [g2, if_neg (by omega), if_neg (by omega)]
  have on : τ1.1 2 309 = zI (n + 1) := by
    show gi τ1 2 309 = _
    rw [g2, if_pos ⟨rfl, rfl⟩]
  have ov : ∀ j, (268 + 4 * n).toNat ≤ j → j < (268 + 4 * n).toNat + 4 → τ1.1 2 j = v5 (zI a1) (zI a2) (zI a3) (zI a4) 0 (j - (268 + 4 * n).toNat) := fun j q1 q2 => by
    show gi τ1 2 j = _
    rw [g2, if_neg (by omega), if_pos ⟨rfl, q1, q2⟩]
  refine both_accept hLW hc h0 (fun k j q => ?_) (fun k j q => ?_) ?_ ?_ ?_ ?_ (fun j q => ok j (by omega) (by omega))
  · exact om k j (by omega) (by omega)
  · rw [g2, if_neg (by omega), if_neg (by omega)]
  · have : bookS σ1.1 1 = bookS σ.1 1 := bookS_d (fun k j q1 q3 => by
      show gi σ1 k j = gi σ k j
      rcases (by omega : k = 27 ∨ (k ≠ 27 ∧ k ≠ 28)) with q | q
      · rw [g1, if_neg (by omega), if_neg (by omega)]
      · exact om k j q.1 q.2)
    rw [this]; exact s1
  · refine ⟨?_, ?_, ?_, ?_, ?_, ?_, ?_, ?_, ?_, ?_, ?_, ?_, ?_⟩
    · exact boatT_k (by omega) k1 (fun j hj => ok j (by omega) (by omega)) (fun k j _ _ => om k j (by omega) (by omega)) t1
    · exact boatT_k (by omega) k1 (fun j hj => ok j (by omega) (by omega)) (fun k j _ _ => om k j (by omega) (by omega)) t2
    · exact ⟨(om _ _ (by omega) (by omega)).trans (t3.1.trans (ok _ (by omega) (by omega)).symm), fun j hj => (om _ _ (by omega) (by omega)).trans ((t3.2 j hj).trans (ok _ (by omega) (by omega)).symm)⟩
    · exact fun j hj => (om _ _ (by omega) (by omega)).trans ((t4 j hj).trans (ok _ (by omega) (by omega)).symm)
    · exact rowE_k (om _ _ (by omega) (by omega)) (fun j => om _ _ (by omega) (by omega)) (ok _ (by omega) (by omega)) (fun j _ _ => ok _ (by omega) (by omega)) t5
    · exact rowE_k (om _ _ (by omega) (by omega)) (fun j => om _ _ (by omega) (by omega)) (ok _ (by omega) (by omega)) (fun j _ _ => ok _ (by omega) (by omega)) t6
    · exact ⟨(om _ _ (by omega) (by omega)).trans (t7.1.trans (ok _ (by omega) (by omega)).symm), fun w hw => by
      have e : kI (τ1.1 2) 302 = kI (τ.1 2) 302 := kI_e (ok _ (by omega) (by omega))
      have b := k5.1
      rw [e] at hw
      rw [om _ _ (by omega) (by omega), om _ _ (by omega) (by omega), om _ _ (by omega) (by omega), om _ _ (by omega) (by omega), om _ _ (by omega) (by omega), ok (188 + 2 * w) (by omega) (by omega), ok (188 + 2 * w + 1) (by omega) (by omega)]
      exact t7.2 w hw⟩
    · exact rowE_k (om _ _ (by omega) (by omega)) (fun j => om _ _ (by omega) (by omega)) (ok _ (by omega) (by omega)) (fun j _ _ => ok _ (by omega) (by omega)) t8
    · refine rowE_add (a := (n * 4).toNat) (w := 4) (v := v5 (zI a1) (zI a2) (zI a3) (zI a4) 0) (n := zI (n + 1)) ((g1 _ _).trans (if_pos ⟨rfl, rfl⟩)) (fun j => ?_) on (fun j q1 q2 => ?_) t9
      · have e := g1 28 j
        rw [if_neg (by omega)] at e
        by_cases q : (n * 4).toNat ≤ j ∧ j < (n * 4).toNat + 4
        · rw [if_pos ⟨rfl, q.1, q.2⟩] at e
          rw [if_pos q]
          exact e
        · rw [if_neg (fun z => q z.2)] at e
          rw [if_neg q]
          exact e
      · by_cases q : 268 + (n * 4).toNat ≤ j ∧ j < 268 + (n * 4).toNat + 4
        · rw [if_pos q, ov j (by omega) (by omega)]
          congr 1
          omega
        · rw [if_neg q]
          exact ok j (by omega) (by omega)
    · exact rowE_k (om _ _ (by omega) (by omega)) (fun j => om _ _ (by omega) (by omega)) (ok _ (by omega) (by omega)) (fun j _ _ => ok _ (by omega) (by omega)) t10
    · exact rowE_k (om _ _ (by omega) (by omega)) (fun j => om _ _ (by omega) (by omega)) (ok _ (by omega) (by omega)) (fun j _ _ => ok _ (by omega) (by omega)) t11
    · exact rowE_k (om _ _ (by omega) (by omega)) (fun j => om _ _ (by omega) (by omega)) (ok _ (by omega) (by omega)) (fun j _ _ => ok _ (by omega) (by omega)) t12
    · exact (om _ _ (by omega) (by omega)).trans (t13.trans (ok _ (by omega) (by omega)).symm)
  · refine ⟨?_, ?_, ?_, ?_, ?_, ?_, ?_, ?_, ?_, ?_⟩
    · exact KB_k (fun j hj => ok j (by omega) (by omega)) k1
    · exact KT_k (fun j hj => ok j (by omega) (by omega)) k2
    · exact KH_k (fun j hj => ok j (by omega) (by omega)) k3
    · exact KE_k (fun j hj => ok j (by omega) (by omega)) k4
    · exact KR_k (fun j hj => ok j (by omega) (by omega)) k5
    · exact KS_k (fun j hj => ok j (by omega) (by omega)) k6
    · have e : kI (τ1.1 2) 309 = n + 1 := by
        show (τ1.1 2 309).toInt = _
        rw [on, zI_toInt (by omega) (by omega)]
      have nw : ∀ (i : Nat) (y : Int), i < 4 → y = 268 + 4 * n + i → kI (τ1.1 2) y = (v5 (zI a1) (zI a2) (zI a3) (zI a4) 0 i).toInt := fun i y q1 q2 => by
        show (τ1.1 2 y.toNat).toInt = _
        rw [ov _ (by omega) (by omega), show y.toNat - (268 + 4 * n).toNat = i by omega]
      unfold KG
      rw [e]
      refine ⟨by omega, fun x x0 x1 => ?_⟩
      by_cases q : x < n
      · rw [kI_e (κ := τ.1 2) (j := 268 + 4 * x) (ok _ (by omega) (by omega)), kI_e (κ := τ.1 2) (j := 268 + 4 * x + 1) (ok _ (by omega) (by omega)), kI_e (κ := τ.1 2) (j := 268 + 4 * x + 2) (ok _ (by omega) (by omega)), kI_e (κ := τ.1 2) (j := 268 + 4 * x + 3) (ok _ (by omega) (by omega))]
        exact k7.2 x x0 (by omega)
      · rw [show kI (τ1.1 2) (268 + 4 * x) = a1 from (nw 0 (268 + 4 * x) (by omega) (by omega)).trans (zI_toInt (a := a1) (by omega) (by omega)), show kI (τ1.1 2) (268 + 4 * x + 1) = a2 from (nw 1 (268 + 4 * x + 1) (by omega) (by omega)).trans (zI_toInt (a := a2) (by omega) (by omega)), show kI (τ1.1 2) (268 + 4 * x + 2) = a3 from (nw 2 (268 + 4 * x + 2) (by omega) (by omega)).trans (zI_toInt (a := a3) (by omega) (by omega)), show kI (τ1.1 2) (268 + 4 * x + 3) = a4 from (nw 3 (268 + 4 * x + 3) (by omega) (by omega)).trans (zI_toInt (a := a4) (by omega) (by omega))]
        omega
    · exact KO_k (fun j hj => ok j (by omega) (by omega)) k8
    · exact KP_k (fun j hj => ok j (by omega) (by omega)) k9
    · exact KC_k (fun j hj => ok j (by omega) (by omega)) k10
  · exact hLW _ _ _ _ _ _ (lawE_c (fun k j q1 q2 _ => om k j (by omega) (by omega))) (fun j q1 q2 => ok j (by omega) (by omega)) lw
theorem acc_offer {LW : LWt} {c : Nat} {σ τ σ1 τ1 : qMem} {a1 a2 n : Int} {ans : Int32} (hLW : LWc LW) (hc : c ≤ 600) (h0 : Inv LW c σ τ) (hn : n = kI (τ.1 2) 303) (hm : n < 8) (r1 : -3 ≤ a1 ∧ a1 ≤ 3) (r2 : -3 ≤ a2 ∧ a2 ≤ 3)
    (g1 : ∀ k' j, gi σ1 k' j = if k' = 29 ∧ j = 3 then zI (n + 1) else if k' = 29 + 1 ∧ (n * 2).toNat ≤ j ∧ j < (n * 2).toNat + ((2 : Int)).toNat then v5 (zI a1) (zI a2) 0 0 0 (j - (n * 2).toNat) else gi σ k' j)
    (g2 : ∀ k j, gi τ1 k j = if k = 2 ∧ j = 303 then zI (n + 1) else if k = 2 ∧ (204 + 2 * n).toNat ≤ j ∧ j < (204 + 2 * n).toNat + 2 then v5 (zI a1) (zI a2) 0 0 0 (j - (204 + 2 * n).toNat) else gi τ k j) : Both LW c (fX11_accept ans σ1) (fX12_good ans τ1) := by
  have h := h0
  obtain ⟨v, s1, s2, s3, s4, bk, kw, lw, im, tp, ms, rf, cc, rc, wo⟩ := h
  obtain ⟨t1, t2, t3, t4, t5, t6, t7, t8, t9, t10, t11, t12, t13⟩ := bk
  obtain ⟨k1, k2, k3, k4, k5, k6, k7, k8, k9, k10⟩ := kw
  have hn0 : 0 ≤ n := by have := k8.1; omega
  have om : ∀ k j, k ≠ 29 → k ≠ 30 → σ1.1 k j = σ.1 k j := fun k j q1 q2 => by
    show gi σ1 k j = gi σ k j
    rw [g1, if_neg (by omega), if_neg (by omega)]
  have ok : ∀ j, j ≠ 303 → ¬ ((204 + 2 * n).toNat ≤ j ∧ j < (204 + 2 * n).toNat + 2) → τ1.1 2 j = τ.1 2 j := fun j q1 q2 => by
    show gi τ1 2 j = gi τ 2 j
    rw [g2, if_neg (by omega), if_neg (by omega)]
  have on : τ1.1 2 303 = zI (n + 1) := by
    show gi τ1 2 303 = _
    rw [g2, if_pos ⟨rfl, rfl⟩]
  have ov : ∀ j, (204 + 2 * n).toNat ≤ j → j < (204 + 2 * n).toNat + 2 → τ1.1 2 j = v5 (zI a1) (zI a2) 0 0 0 (j - (204 + 2 * n).toNat) := fun j q1 q2 => by
    show gi τ1 2 j = _
    rw [g2, if_neg (by omega), if_pos ⟨rfl, q1, q2⟩]
  refine both_accept hLW hc h0 (fun k j q => ?_) (fun k j q => ?_) ?_ ?_ ?_ ?_ (fun j q => ok j (by omega) (by omega))
  · exact om k j (by omega) (by omega)
  · rw [g2, if_neg (by omega), if_neg (by omega)]
  · have : bookS σ1.1 1 = bookS σ.1 1 := bookS_d (fun k j q1 q3 => by
      show gi σ1 k j = gi σ k j
      rcases (by omega : k = 29 ∨ (k ≠ 29 ∧ k ≠ 30)) with q | q
      · rw [g1, if_neg (by omega), if_neg (by omega)]
      · exact om k j q.1 q.2)
    rw [this]; exact s1
  · refine ⟨?_, ?_, ?_, ?_, ?_, ?_, ?_, ?_, ?_, ?_, ?_, ?_, ?_⟩
    · exact boatT_k (by omega) k1 (fun j hj => ok j (by omega) (by omega)) (fun k j _ _ => om k j (by omega) (by omega)) t1
    · exact boatT_k (by omega) k1 (fun j hj => ok j (by omega) (by omega)) (fun k j _ _ => om k j (by omega) (by omega)) t2
    · exact ⟨(om _ _ (by omega) (by omega)).trans (t3.1.trans (ok _ (by omega) (by omega)).symm), fun j hj => (om _ _ (by omega) (by omega)).trans ((t3.2 j hj).trans (ok _ (by omega) (by omega)).symm)⟩
    · exact fun j hj => (om _ _ (by omega) (by omega)).trans ((t4 j hj).trans (ok _ (by omega) (by omega)).symm)
    · exact rowE_k (om _ _ (by omega) (by omega)) (fun j => om _ _ (by omega) (by omega)) (ok _ (by omega) (by omega)) (fun j _ _ => ok _ (by omega) (by omega)) t5
    · exact rowE_k (om _ _ (by omega) (by omega)) (fun j => om _ _ (by omega) (by omega)) (ok _ (by omega) (by omega)) (fun j _ _ => ok _ (by omega) (by omega)) t6
    · exact ⟨(om _ _ (by omega) (by omega)).trans (t7.1.trans (ok _ (by omega) (by omega)).symm), fun w hw => by
      have e : kI (τ1.1 2) 302 = kI (τ.1 2) 302 := kI_e (ok _ (by omega) (by omega))
      have b := k5.1
      rw [e] at hw
      rw [om _ _ (by omega) (by omega), om _ _ (by omega) (by omega), om _ _ (by omega) (by omega), om _ _ (by omega) (by omega), om _ _ (by omega) (by omega), ok (188 + 2 * w) (by omega) (by omega), ok (188 + 2 * w + 1) (by omega) (by omega)]
      exact t7.2 w hw⟩
    · exact rowE_k (om _ _ (by omega) (by omega)) (fun j => om _ _ (by omega) (by omega)) (ok _ (by omega) (by omega)) (fun j _ _ => ok _ (by omega) (by omega)) t8
    · exact rowE_k (om _ _ (by omega) (by omega)) (fun j => om _ _ (by omega) (by omega)) (ok _ (by omega) (by omega)) (fun j _ _ => ok _ (by omega) (by omega)) t9
    · refine rowE_add (a := (n * 2).toNat) (w := 2) (v := v5 (zI a1) (zI a2) 0 0 0) (n := zI (n + 1)) ((g1 _ _).trans (if_pos ⟨rfl, rfl⟩)) (fun j => ?_) on (fun j q1 q2 => ?_) t10
      · have e := g1 30 j
        rw [if_neg (by omega)] at e
        by_cases q : (n * 2).toNat ≤ j ∧ j < (n * 2).toNat + 2
        · rw [if_pos ⟨rfl, q.1, q.2⟩] at e
          rw [if_pos q]
          exact e
        · rw [if_neg (fun z => q z.2)] at e
          rw [if_neg q]
          exact e
      · by_cases q : 204 + (n * 2).toNat ≤ j ∧ j < 204 + (n * 2).toNat + 2
        · rw [if_pos q, ov j (by omega) (by omega)]
          congr 1
          omega
        · rw [if_neg q]
          exact ok j (by omega) (by omega)
    · exact rowE_k (om _ _ (by omega) (by omega)) (fun j => om _ _ (by omega) (by omega)) (ok _ (by omega) (by omega)) (fun j _ _ => ok _ (by omega) (by omega)) t11
    · exact rowE_k (om _ _ (by omega) (by omega)) (fun j => om _ _ (by omega) (by omega)) (ok _ (by omega) (by omega)) (fun j _ _ => ok _ (by omega) (by omega)) t12
    · exact (om _ _ (by omega) (by omega)).trans (t13.trans (ok _ (by omega) (by omega)).symm)
  · refine ⟨?_, ?_, ?_, ?_, ?_, ?_, ?_, ?_, ?_, ?_⟩
    · exact KB_k (fun j hj => ok j (by omega) (by omega)) k1
    · exact KT_k (fun j hj => ok j (by omega) (by omega)) k2
    · exact KH_k (fun j hj => ok j (by omega) (by omega)) k3
    · exact KE_k (fun j hj => ok j (by omega) (by omega)) k4
    · exact KR_k (fun j hj => ok j (by omega) (by omega)) k5
    · exact KS_k (fun j hj => ok j (by omega) (by omega)) k6
    · exact KG_k (fun j hj => ok j (by omega) (by omega)) k7
    · have e : kI (τ1.1 2) 303 = n + 1 := by
        show (τ1.1 2 303).toInt = _
        rw [on, zI_toInt (by omega) (by omega)]
      have nw : ∀ (i : Nat) (y : Int), i < 2 → y = 204 + 2 * n + i → kI (τ1.1 2) y = (v5 (zI a1) (zI a2) 0 0 0 i).toInt := fun i y q1 q2 => by
        show (τ1.1 2 y.toNat).toInt = _
        rw [ov _ (by omega) (by omega), show y.toNat - (204 + 2 * n).toNat = i by omega]
      unfold KO
      rw [e]
      refine ⟨by omega, fun x x0 x1 => ?_⟩
      by_cases q : x < n
      · rw [kI_e (κ := τ.1 2) (j := 204 + 2 * x) (ok _ (by omega) (by omega)), kI_e (κ := τ.1 2) (j := 204 + 2 * x + 1) (ok _ (by omega) (by omega))]
        exact k8.2 x x0 (by omega)
      · rw [show kI (τ1.1 2) (204 + 2 * x) = a1 from (nw 0 (204 + 2 * x) (by omega) (by omega)).trans (zI_toInt (a := a1) (by omega) (by omega)), show kI (τ1.1 2) (204 + 2 * x + 1) = a2 from (nw 1 (204 + 2 * x + 1) (by omega) (by omega)).trans (zI_toInt (a := a2) (by omega) (by omega))]
        omega
    · exact KP_k (fun j hj => ok j (by omega) (by omega)) k9
    · exact KC_k (fun j hj => ok j (by omega) (by omega)) k10
  · exact hLW _ _ _ _ _ _ (lawE_c (fun k j q1 q2 _ => om k j (by omega) (by omega))) (fun j q1 q2 => ok j (by omega) (by omega)) lw
theorem acc_beat {LW : LWt} {c : Nat} {σ τ σ1 τ1 : qMem} {a1 n : Int} {ans : Int32} (hLW : LWc LW) (hc : c ≤ 600) (h0 : Inv LW c σ τ) (hn : n = kI (τ.1 2) 304) (hm : n < 6) (r1 : 1 ≤ a1 ∧ a1 ≤ 3000)
    (g1 : ∀ k' j, gi σ1 k' j = if k' = 31 ∧ j = 3 then zI (n + 1) else if k' = 31 + 1 ∧ (n * 1).toNat ≤ j ∧ j < (n * 1).toNat + ((1 : Int)).toNat then v5 (zI a1) 0 0 0 0 (j - (n * 1).toNat) else gi σ k' j)
    (g2 : ∀ k j, gi τ1 k j = if k = 2 ∧ j = 304 then zI (n + 1) else if k = 2 ∧ (220 + n).toNat ≤ j ∧ j < (220 + n).toNat + 1 then v5 (zI a1) 0 0 0 0 (j - (220 + n).toNat) else gi τ k j) : Both LW c (fX11_accept ans σ1) (fX12_good ans τ1) := by
  have h := h0
  obtain ⟨v, s1, s2, s3, s4, bk, kw, lw, im, tp, ms, rf, cc, rc, wo⟩ := h
  obtain ⟨t1, t2, t3, t4, t5, t6, t7, t8, t9, t10, t11, t12, t13⟩ := bk
  obtain ⟨k1, k2, k3, k4, k5, k6, k7, k8, k9, k10⟩ := kw
  have hn0 : 0 ≤ n := by have := k9.1; omega
  have om : ∀ k j, k ≠ 31 → k ≠ 32 → σ1.1 k j = σ.1 k j := fun k j q1 q2 => by
    show gi σ1 k j = gi σ k j
    rw [g1, if_neg (by omega), if_neg (by omega)]
  have ok : ∀ j, j ≠ 304 → ¬ ((220 + n).toNat ≤ j ∧ j < (220 + n).toNat + 1) → τ1.1 2 j = τ.1 2 j := fun j q1 q2 => by
    show gi τ1 2 j = gi τ 2 j
    rw [g2, if_neg (by omega), if_neg (by omega)]
  have on : τ1.1 2 304 = zI (n + 1) := by
    show gi τ1 2 304 = _
    rw [g2, if_pos ⟨rfl, rfl⟩]
  have ov : ∀ j, (220 + n).toNat ≤ j → j < (220 + n).toNat + 1 → τ1.1 2 j = v5 (zI a1) 0 0 0 0 (j - (220 + n).toNat) := fun j q1 q2 => by
    show gi τ1 2 j = _
    rw [g2, if_neg (by omega), if_pos ⟨rfl, q1, q2⟩]
  refine both_accept hLW hc h0 (fun k j q => ?_) (fun k j q => ?_) ?_ ?_ ?_ ?_ (fun j q => ok j (by omega) (by omega))
  · exact om k j (by omega) (by omega)
  · rw [g2, if_neg (by omega), if_neg (by omega)]
  · have : bookS σ1.1 1 = bookS σ.1 1 := bookS_d (fun k j q1 q3 => by
      show gi σ1 k j = gi σ k j
      rcases (by omega : k = 31 ∨ (k ≠ 31 ∧ k ≠ 32)) with q | q
      · rw [g1, if_neg (by omega), if_neg (by omega)]
      · exact om k j q.1 q.2)
    rw [this]; exact s1
  · refine ⟨?_, ?_, ?_, ?_, ?_, ?_, ?_, ?_, ?_, ?_, ?_, ?_, ?_⟩
    · exact boatT_k (by omega) k1 (fun j hj => ok j (by omega) (by omega)) (fun k j _ _ => om k j (by omega) (by omega)) t1
    · exact boatT_k (by omega) k1 (fun j hj => ok j (by omega) (by omega)) (fun k j _ _ => om k j (by omega) (by omega)) t2
    · exact ⟨(om _ _ (by omega) (by omega)).trans (t3.1.trans (ok _ (by omega) (by omega)).symm), fun j hj => (om _ _ (by omega) (by omega)).trans ((t3.2 j hj).trans (ok _ (by omega) (by omega)).symm)⟩
    · exact fun j hj => (om _ _ (by omega) (by omega)).trans ((t4 j hj).trans (ok _ (by omega) (by omega)).symm)
    · exact rowE_k (om _ _ (by omega) (by omega)) (fun j => om _ _ (by omega) (by omega)) (ok _ (by omega) (by omega)) (fun j _ _ => ok _ (by omega) (by omega)) t5
    · exact rowE_k (om _ _ (by omega) (by omega)) (fun j => om _ _ (by omega) (by omega)) (ok _ (by omega) (by omega)) (fun j _ _ => ok _ (by omega) (by omega)) t6
    · exact ⟨(om _ _ (by omega) (by omega)).trans (t7.1.trans (ok _ (by omega) (by omega)).symm), fun w hw => by
      have e : kI (τ1.1 2) 302 = kI (τ.1 2) 302 := kI_e (ok _ (by omega) (by omega))
      have b := k5.1
      rw [e] at hw
      rw [om _ _ (by omega) (by omega), om _ _ (by omega) (by omega), om _ _ (by omega) (by omega), om _ _ (by omega) (by omega), om _ _ (by omega) (by omega), ok (188 + 2 * w) (by omega) (by omega), ok (188 + 2 * w + 1) (by omega) (by omega)]
      exact t7.2 w hw⟩
    · exact rowE_k (om _ _ (by omega) (by omega)) (fun j => om _ _ (by omega) (by omega)) (ok _ (by omega) (by omega)) (fun j _ _ => ok _ (by omega) (by omega)) t8
    · exact rowE_k (om _ _ (by omega) (by omega)) (fun j => om _ _ (by omega) (by omega)) (ok _ (by omega) (by omega)) (fun j _ _ => ok _ (by omega) (by omega)) t9
    · exact rowE_k (om _ _ (by omega) (by omega)) (fun j => om _ _ (by omega) (by omega)) (ok _ (by omega) (by omega)) (fun j _ _ => ok _ (by omega) (by omega)) t10
    · refine rowE_add (a := (n * 1).toNat) (w := 1) (v := v5 (zI a1) 0 0 0 0) (n := zI (n + 1)) ((g1 _ _).trans (if_pos ⟨rfl, rfl⟩)) (fun j => ?_) on (fun j q1 q2 => ?_) t11
      · have e := g1 32 j
        rw [if_neg (by omega)] at e
        by_cases q : (n * 1).toNat ≤ j ∧ j < (n * 1).toNat + 1
        · rw [if_pos ⟨rfl, q.1, q.2⟩] at e
          rw [if_pos q]
          exact e
        · rw [if_neg (fun z => q z.2)] at e
          rw [if_neg q]
          exact e
      · by_cases q : 220 + (n * 1).toNat ≤ j ∧ j < 220 + (n * 1).toNat + 1
        · rw [if_pos q, ov j (by omega) (by omega)]
          congr 1
          omega
        · rw [if_neg q]
          exact ok j (by omega) (by omega)
    · exact rowE_k (om _ _ (by omega) (by omega)) (fun j => om _ _ (by omega) (by omega)) (ok _ (by omega) (by omega)) (fun j _ _ => ok _ (by omega) (by omega)) t12
    · exact (om _ _ (by omega) (by omega)).trans (t13.trans (ok _ (by omega) (by omega)).symm)
  · refine ⟨?_, ?_, ?_, ?_, ?_, ?_, ?_, ?_, ?_, ?_⟩
    · exact KB_k (fun j hj => ok j (by omega) (by omega)) k1
    · exact KT_k (fun j hj => ok j (by omega) (by omega)) k2
    · exact KH_k (fun j hj => ok j (by omega) (by omega)) k3
    · exact KE_k (fun j hj => ok j (by omega) (by omega)) k4
    · exact KR_k (fun j hj => ok j (by omega) (by omega)) k5
    · exact KS_k (fun j hj => ok j (by omega) (by omega)) k6
    · exact KG_k (fun j hj => ok j (by omega) (by omega)) k7
    · exact KO_k (fun j hj => ok j (by omega) (by omega)) k8
    · have e : kI (τ1.1 2) 304 = n + 1 := by
        show (τ1.1 2 304).toInt = _
        rw [on, zI_toInt (by omega) (by omega)]
      have nw : ∀ (i : Nat) (y : Int), i < 1 → y = 220 + n + i → kI (τ1.1 2) y = (v5 (zI a1) 0 0 0 0 i).toInt := fun i y q1 q2 => by
        show (τ1.1 2 y.toNat).toInt = _
        rw [ov _ (by omega) (by omega), show y.toNat - (220 + n).toNat = i by omega]
      unfold KP
      rw [e]
      refine ⟨by omega, fun x x0 x1 => ?_⟩
      by_cases q : x < n
      · rw [kI_e (κ := τ.1 2) (j := 220 + x) (ok _ (by omega) (by omega))]
        exact k9.2 x x0 (by omega)
      · rw [show kI (τ1.1 2) (220 + x) = a1 from (nw 0 (220 + x) (by omega) (by omega)).trans (zI_toInt (a := a1) (by omega) (by omega))]
        omega
    · exact KC_k (fun j hj => ok j (by omega) (by omega)) k10
  · exact hLW _ _ _ _ _ _ (lawE_c (fun k j q1 q2 _ => om k j (by omega) (by omega))) (fun j q1 q2 => ok j (by omega) (by omega)) lw
theorem acc_cell {LW : LWt} {c : Nat} {σ τ σ1 τ1 : qMem} {a1 a2 n : Int} {ans : Int32} (hLW : LWc LW) (hc : c ≤ 600) (h0 : Inv LW c σ τ) (hn : n = kI (τ.1 2) 305) (hm : n < 6) (r1 : 0 ≤ a1 ∧ a1 ≤ 100) (r2 : 0 ≤ a2 ∧ a2 ≤ 100)
    (g1 : ∀ k' j, gi σ1 k' j = if k' = 33 ∧ j = 3 then zI (n + 1) else if k' = 33 + 1 ∧ (n * 2).toNat ≤ j ∧ j < (n * 2).toNat + ((2 : Int)).toNat then v5 (zI a1) (zI a2) 0 0 0 (j - (n * 2).toNat) else gi σ k' j)
    (g2 : ∀ k j, gi τ1 k j = if k = 2 ∧ j = 305 then zI (n + 1) else if k = 2 ∧ (226 + 2 * n).toNat ≤ j ∧ j < (226 + 2 * n).toNat + 2 then v5 (zI a1) (zI a2) 0 0 0 (j - (226 + 2 * n).toNat) else gi τ k j) : Both LW c (fX11_accept ans σ1) (fX12_good ans τ1) := by
  have h := h0
  obtain ⟨v, s1, s2, s3, s4, bk, kw, lw, im, tp, ms, rf, cc, rc, wo⟩ := h
  obtain ⟨t1, t2, t3, t4, t5, t6, t7, t8, t9, t10, t11, t12, t13⟩ := bk
  obtain ⟨k1, k2, k3, k4, k5, k6, k7, k8, k9, k10⟩ := kw
  have hn0 : 0 ≤ n := by have := k10.1; omega
  have om : ∀ k j, k ≠ 33 → k ≠ 34 → σ1.1 k j = σ.1 k j := fun k j q1 q2 => by
    show gi σ1 k j = gi σ k j
    rw [g1, if_neg (by omega), if_neg (by omega)]
  have ok : ∀ j, j ≠ 305 → ¬ ((226 + 2 * n).toNat ≤ j ∧ j < (226 + 2 * n).toNat + 2) → τ1.1 2 j = τ.1 2 j := fun j q1 q2 => by
    show gi τ1 2 j = gi τ 2 j
    rw [g2, if_neg (by omega), if_neg (by omega)]
  have on : τ1.1 2 305 = zI (n + 1) := by
    show gi τ1 2 305 = _
    rw [g2, if_pos ⟨rfl, rfl⟩]
  have ov : ∀ j, (226 + 2 * n).toNat ≤ j → j < (226 + 2 * n).toNat + 2 → τ1.1 2 j = v5 (zI a1) (zI a2) 0 0 0 (j - (226 + 2 * n).toNat) := fun j q1 q2 => by
    show gi τ1 2 j = _
    rw [g2, if_neg (by omega), if_pos ⟨rfl, q1, q2⟩]
  refine both_accept hLW hc h0 (fun k j q => ?_) (fun k j q => ?_) ?_ ?_ ?_ ?_ (fun j q => ok j (by omega) (by omega))
  · exact om k j (by omega) (by omega)
  · rw [g2, if_neg (by omega), if_neg (by omega)]
  · have : bookS σ1.1 1 = bookS σ.1 1 := bookS_d (fun k j q1 q3 => by
      show gi σ1 k j = gi σ k j
      rcases (by omega : k = 33 ∨ (k ≠ 33 ∧ k ≠ 34)) with q | q
      · rw [g1, if_neg (by omega), if_neg (by omega)]
      · exact om k j q.1 q.2)
    rw [this]; exact s1
  · refine ⟨?_, ?_, ?_, ?_, ?_, ?_, ?_, ?_, ?_, ?_, ?_, ?_, ?_⟩
    · exact boatT_k (by omega) k1 (fun j hj => ok j (by omega) (by omega)) (fun k j _ _ => om k j (by omega) (by omega)) t1
    · exact boatT_k (by omega) k1 (fun j hj => ok j (by omega) (by omega)) (fun k j _ _ => om k j (by omega) (by omega)) t2
    · exact ⟨(om _ _ (by omega) (by omega)).trans (t3.1.trans (ok _ (by omega) (by omega)).symm), fun j hj => (om _ _ (by omega) (by omega)).trans ((t3.2 j hj).trans (ok _ (by omega) (by omega)).symm)⟩
    · exact fun j hj => (om _ _ (by omega) (by omega)).trans ((t4 j hj).trans (ok _ (by omega) (by omega)).symm)
    · exact rowE_k (om _ _ (by omega) (by omega)) (fun j => om _ _ (by omega) (by omega)) (ok _ (by omega) (by omega)) (fun j _ _ => ok _ (by omega) (by omega)) t5
    · exact rowE_k (om _ _ (by omega) (by omega)) (fun j => om _ _ (by omega) (by omega)) (ok _ (by omega) (by omega)) (fun j _ _ => ok _ (by omega) (by omega)) t6
    · exact ⟨(om _ _ (by omega) (by omega)).trans (t7.1.trans (ok _ (by omega) (by omega)).symm), fun w hw => by
      have e : kI (τ1.1 2) 302 = kI (τ.1 2) 302 := kI_e (ok _ (by omega) (by omega))
      have b := k5.1
      rw [e] at hw
      rw [om _ _ (by omega) (by omega), om _ _ (by omega) (by omega), om _ _ (by omega) (by omega), om _ _ (by omega) (by omega), om _ _ (by omega) (by omega), ok (188 + 2 * w) (by omega) (by omega), ok (188 + 2 * w + 1) (by omega) (by omega)]
      exact t7.2 w hw⟩
    · exact rowE_k (om _ _ (by omega) (by omega)) (fun j => om _ _ (by omega) (by omega)) (ok _ (by omega) (by omega)) (fun j _ _ => ok _ (by omega) (by omega)) t8
    · exact rowE_k (om _ _ (by omega) (by omega)) (fun j => om _ _ (by omega) (by omega)) (ok _ (by omega) (by omega)) (fun j _ _ => ok _ (by omega) (by omega)) t9
    · exact rowE_k (om _ _ (by omega) (by omega)) (fun j => om _ _ (by omega) (by omega)) (ok _ (by omega) (by omega)) (fun j _ _ => ok _ (by omega) (by omega)) t10
    · exact rowE_k (om _ _ (by omega) (by omega)) (fun j => om _ _ (by omega) (by omega)) (ok _ (by omega) (by omega)) (fun j _ _ => ok _ (by omega) (by omega)) t11
    · refine rowE_add (a := (n * 2).toNat) (w := 2) (v := v5 (zI a1) (zI a2) 0 0 0) (n := zI (n + 1)) ((g1 _ _).trans (if_pos ⟨rfl, rfl⟩)) (fun j => ?_) on (fun j q1 q2 => ?_) t12
      · have e := g1 34 j
        rw [if_neg (by omega)] at e
        by_cases q : (n * 2).toNat ≤ j ∧ j < (n * 2).toNat + 2
        · rw [if_pos ⟨rfl, q.1, q.2⟩] at e
          rw [if_pos q]
          exact e
        · rw [if_neg (fun z => q z.2)] at e
          rw [if_neg q]
          exact e
      · by_cases q : 226 + (n * 2).toNat ≤ j ∧ j < 226 + (n * 2).toNat + 2
        · rw [if_pos q, ov j (by omega) (by omega)]
          congr 1
          omega
        · rw [if_neg q]
          exact ok j (by omega) (by omega)
    · exact (om _ _ (by omega) (by omega)).trans (t13.trans (ok _ (by omega) (by omega)).symm)
  · refine ⟨?_, ?_, ?_, ?_, ?_, ?_, ?_, ?_, ?_, ?_⟩
    · exact KB_k (fun j hj => ok j (by omega) (by omega)) k1
    · exact KT_k (fun j hj => ok j (by omega) (by omega)) k2
    · exact KH_k (fun j hj => ok j (by omega) (by omega)) k3
    · exact KE_k (fun j hj => ok j (by omega) (by omega)) k4
    · exact KR_k (fun j hj => ok j (by omega) (by omega)) k5
    · exact KS_k (fun j hj => ok j (by omega) (by omega)) k6
    · exact KG_k (fun j hj => ok j (by omega) (by omega)) k7
    · exact KO_k (fun j hj => ok j (by omega) (by omega)) k8
    · exact KP_k (fun j hj => ok j (by omega) (by omega)) k9
    · have e : kI (τ1.1 2) 305 = n + 1 := by
        show (τ1.1 2 305).toInt = _
        rw [on, zI_toInt (by omega) (by omega)]
      have nw : ∀ (i : Nat) (y : Int), i < 2 → y = 226 + 2 * n + i → kI (τ1.1 2) y = (v5 (zI a1) (zI a2) 0 0 0 i).toInt := fun i y q1 q2 => by
        show (τ1.1 2 y.toNat).toInt = _
        rw [ov _ (by omega) (by omega), show y.toNat - (226 + 2 * n).toNat = i by omega]
      unfold KC
      rw [e]
      refine ⟨by omega, fun x x0 x1 => ?_⟩
      by_cases q : x < n
      · rw [kI_e (κ := τ.1 2) (j := 226 + 2 * x) (ok _ (by omega) (by omega)), kI_e (κ := τ.1 2) (j := 226 + 2 * x + 1) (ok _ (by omega) (by omega))]
        exact k10.2 x x0 (by omega)
      · rw [show kI (τ1.1 2) (226 + 2 * x) = a1 from (nw 0 (226 + 2 * x) (by omega) (by omega)).trans (zI_toInt (a := a1) (by omega) (by omega)), show kI (τ1.1 2) (226 + 2 * x + 1) = a2 from (nw 1 (226 + 2 * x + 1) (by omega) (by omega)).trans (zI_toInt (a := a2) (by omega) (by omega))]
        omega
  · exact hLW _ _ _ _ _ _ (lawE_c (fun k j q1 q2 _ => om k j (by omega) (by omega))) (fun j q1 q2 => ok j (by omega) (by omega)) lw
set_option maxHeartbeats 4000000 in
theorem b_heard {LW : LWt} {c : Nat} {σ τ : qMem} (hLW : LWc LW) (hc : c ≤ 600) (h : Inv LW c σ τ) (p1 p2 p3 : Int32) : Both LW c (fX11_heard p1 p2 p3 σ) (fX12_heard p1 p2 p3 τ) := by
  obtain ⟨a1, l1, u1, rfl⟩ := zI_ex p1
  obtain ⟨a2, l2, u2, rfl⟩ := zI_ex p2
  obtain ⟨a3, l3, u3, rfl⟩ := zI_ex p3
  have h0 := h
  obtain ⟨v, s1, s2, s3, s4, bk, kw, lw, im, tp, ms, rf, cc, rc, wo⟩ := h
  obtain ⟨y1, y2, y3, y4, y5, y6, y7, y8, y9, y10, y11⟩ := s1
  obtain ⟨t1, t2, t3, t4, t5, t6, t7, t8, t9, t10, t11, t12, t13⟩ := bk
  obtain ⟨k1, k2, k3, k4, k5, k6, k7, k8, k9, k10⟩ := kw
  have w0 : gi σ 19 0 = zI 3 := y3.1
  have w1 : gi σ 19 1 = zI 24 := y3.2
  have w3 : gi σ 19 3 = zI (kI (τ.1 2) 300) := t5.1.trans (zI_of _).symm
  have hr := k3.1
  have gn : gi τ 2 (Int.toNat 300) = zI (kI (τ.1 2) 300) := (zI_of _).symm
  generalize hnn : kI (τ.1 2) 300 = n at *
  unfold fX11_heard fX12_heard fX11_heard_b17 fX12_heard_b17 fX12_hearsNew
  simp (disch := omega) only [zl_0, zl_1, zl_2, zl_3, zl_4, zl_5, zl_6, zl_7, zl_8, zl_9, zl_10, zl_11, zl_12, zl_13, zl_14, zl_15, zl_16, zl_17, zl_18, zl_19, zl_20, zl_21, zl_22, zl_23, zl_24, zl_25, zl_26, zl_27, zl_28, zl_29, zl_30, zl_31, zl_32, zl_33, zl_34, zl_35, zl_36, zl_37, zl_38, zl_39, zl_40, zl_41, zl_42, zl_43, zl_44, zl_45, zl_46, zl_47, zl_48, zl_49, zl_50, zl_51, zl_57, zl_59, zl_60, zl_61, zl_62, zl_63, zl_64, zl_65, zl_66, zl_67, zl_68, zl_69, zl_70, zl_71, zl_72, zl_73, zl_74, zl_75, zl_76, zl_77, zl_78, zl_79, zl_80, zl_81, zl_86, zl_87, zl_88, zl_89, zl_91, zl_93, zl_97, zl_99, zl_100, zl_108, zl_110, zl_122, zl_144, zl_152, zl_188, zl_199, zl_200, zl_201, zl_204, zl_220, zl_224, zl_226, zl_238, zl_255, zl_268, zl_300, zl_301, zl_302, zl_303, zl_304, zl_305, zl_306, zl_307, zl_308, zl_309, zl_310, zl_312, zl_400, zl_401, zl_712, zl_768, zl_1000, zl_1112, zl_1500, zl_1568, zl_2224, zl_3000, zl_20100, zl_50176, zl_60000, zl_100000, zl_117648, zl_1000000, zl_10000000, zl_1000000000, zI_add, zI_sub, zI_mul, zI_neg, e_isBell, e_isIn, e_isBoat, e_ofSea, e_isPace, e_isRun, r_isBell, r_isSea, r_isBoat, r_isPace, e_in, Option.bind_some, eta2, nmI, nmM, zI_clamp, gn, zI_ckT, if_true, zI_le, zI_eq, bI_00, decide_eq_false_iff_not]
  by_cases q1 : 0 ≤ a2 ∧ a2 ≤ 23
  · skip
    by_cases q2 : 0 ≤ a3 ∧ a3 ≤ 79
    · skip
      by_cases q3 : 0 ≤ a1 ∧ a1 ≤ 1
      · skip
        simp only [q1, q2, q3, and_true, and_false, true_and, false_and, and_self, not_true_eq_false, not_false_eq_true, if_true, if_false]
        by_cases qf : n = 24
        · rw [e_addChgF _ _ _ _ _ w1 w3 hr.1 qf (by omega), if_pos qf]
          exact both_refuse hLW h0 (by omega)
        · rw [if_neg qf]
          obtain ⟨σ1, e1, g1⟩ := e_addChg (n := 72) _ _ _ _ _ w0 w1 w3 (by omega) (by omega) hr.1 (by omega) (by omega) (by omega)
          rw [e1]
          have gt := gcnt3 (τ := τ) (r := 2) (a0 := (80 + 3 * n).toNat) (a1 := (80 + 3 * n + 1).toNat) (a2 := (80 + 3 * n + 2).toNat) (cnt := Int.toNat 300) (x := zI a1) (y := zI a2) (z := zI a3) (n := n) 0 0 (by omega) (by omega) (by omega) gn
          have e9 := gt 2 (Int.toNat 300)
          rw [if_pos ⟨rfl, rfl⟩] at e9
          rw [e9, zI_sub, show n + 1 - 1 = n by omega]
          exact acc_heard (n := n) hLW hc h0 hnn.symm (by omega) q3 q1 q2 g1 (gt)
      · simp only [q1, q2, q3, and_true, and_false, true_and, false_and, and_self, not_true_eq_false, not_false_eq_true, if_true, if_false]
        exact both_refuse (w := -2) hLW h0 (by omega)
    · simp only [q1, q2, and_true, and_false, true_and, false_and, and_self, not_true_eq_false, not_false_eq_true, if_true, if_false]
      exact both_refuse (w := -1) hLW h0 (by omega)
  · simp only [q1, and_true, and_false, true_and, false_and, and_self, not_true_eq_false, not_false_eq_true, if_true, if_false]
    exact both_refuse (w := -1) hLW h0 (by omega)
set_option maxHeartbeats 4000000 in
theorem b_echo {LW : LWt} {c : Nat} {σ τ : qMem} (hLW : LWc LW) (hc : c ≤ 600) (h : Inv LW c σ τ) (p1 p2 p3 : Int32) : Both LW c (fX11_echo p1 p2 p3 σ) (fX12_echo p1 p2 p3 τ) := by
  obtain ⟨a1, l1, u1, rfl⟩ := zI_ex p1
  obtain ⟨a2, l2, u2, rfl⟩ := zI_ex p2
  obtain ⟨a3, l3, u3, rfl⟩ := zI_ex p3
  have h0 := h
  obtain ⟨v, s1, s2, s3, s4, bk, kw, lw, im, tp, ms, rf, cc, rc, wo⟩ := h
  obtain ⟨y1, y2, y3, y4, y5, y6, y7, y8, y9, y10, y11⟩ := s1
  obtain ⟨t1, t2, t3, t4, t5, t6, t7, t8, t9, t10, t11, t12, t13⟩ := bk
  obtain ⟨k1, k2, k3, k4, k5, k6, k7, k8, k9, k10⟩ := kw
  have w0 : gi σ 21 0 = zI 3 := y4.1
  have w1 : gi σ 21 1 = zI 12 := y4.2
  have w3 : gi σ 21 3 = zI (kI (τ.1 2) 301) := t6.1.trans (zI_of _).symm
  have hr := k4.1
  have gn : gi τ 2 (Int.toNat 301) = zI (kI (τ.1 2) 301) := (zI_of _).symm
  generalize hnn : kI (τ.1 2) 301 = n at *
  unfold fX11_echo fX12_echo fX11_echo_b17 fX12_echo_b17
  simp (disch := omega) only [zl_0, zl_1, zl_2, zl_3, zl_4, zl_5, zl_6, zl_7, zl_8, zl_9, zl_10, zl_11, zl_12, zl_13, zl_14, zl_15, zl_16, zl_17, zl_18, zl_19, zl_20, zl_21, zl_22, zl_23, zl_24, zl_25, zl_26, zl_27, zl_28, zl_29, zl_30, zl_31, zl_32, zl_33, zl_34, zl_35, zl_36, zl_37, zl_38, zl_39, zl_40, zl_41, zl_42, zl_43, zl_44, zl_45, zl_46, zl_47, zl_48, zl_49, zl_50, zl_51, zl_57, zl_59, zl_60, zl_61, zl_62, zl_63, zl_64, zl_65, zl_66, zl_67, zl_68, zl_69, zl_70, zl_71, zl_72, zl_73, zl_74, zl_75, zl_76, zl_77, zl_78, zl_79, zl_80, zl_81, zl_86, zl_87, zl_88, zl_89, zl_91, zl_93, zl_97, zl_99, zl_100, zl_108, zl_110, zl_122, zl_144, zl_152, zl_188, zl_199, zl_200, zl_201, zl_204, zl_220, zl_224, zl_226, zl_238, zl_255, zl_268, zl_300, zl_301, zl_302, zl_303, zl_304, zl_305, zl_306, zl_307, zl_308, zl_309, zl_310, zl_312, zl_400, zl_401, zl_712, zl_768, zl_1000, zl_1112, zl_1500, zl_1568, zl_2224, zl_3000, zl_20100, zl_50176, zl_60000, zl_100000, zl_117648, zl_1000000, zl_10000000, zl_1000000000, zI_add, zI_sub, zI_mul, zI_neg, e_isBell, e_isIn, e_isBoat, e_ofSea, e_isPace, e_isRun, r_isBell, r_isSea, r_isBoat, r_isPace, e_in, Option.bind_some, eta2, nmI, nmM, zI_clamp, gn, zI_ckT, if_true, zI_le, zI_eq, bI_00, decide_eq_false_iff_not]
  by_cases q1 : 0 ≤ a2 ∧ a2 ≤ 23
  · skip
    by_cases q2 : 0 ≤ a3 ∧ a3 ≤ 99
    · skip
      by_cases q3 : 0 ≤ a1 ∧ a1 ≤ 1
      · skip
        simp only [q1, q2, q3, and_true, and_false, true_and, false_and, and_self, not_true_eq_false, not_false_eq_true, if_true, if_false]
        by_cases qf : n = 12
        · rw [e_addChgF _ _ _ _ _ w1 w3 hr.1 qf (by omega), if_pos qf]
          exact both_refuse hLW h0 (by omega)
        · rw [if_neg qf]
          obtain ⟨σ1, e1, g1⟩ := e_addChg (n := 36) _ _ _ _ _ w0 w1 w3 (by omega) (by omega) hr.1 (by omega) (by omega) (by omega)
          rw [e1]
          exact acc_echo (n := n) hLW hc h0 hnn.symm (by omega) q3 q1 q2 g1 (gcnt3 0 0 (by omega) (by omega) (by omega) gn)
      · simp only [q1, q2, q3, and_true, and_false, true_and, false_and, and_self, not_true_eq_false, not_false_eq_true, if_true, if_false]
        exact both_refuse (w := -2) hLW h0 (by omega)
    · simp only [q1, q2, and_true, and_false, true_and, false_and, and_self, not_true_eq_false, not_false_eq_true, if_true, if_false]
      exact both_refuse (w := -1) hLW h0 (by omega)
  · simp only [q1, and_true, and_false, true_and, false_and, and_self, not_true_eq_false, not_false_eq_true, if_true, if_false]
    exact both_refuse (w := -1) hLW h0 (by omega)
set_option maxHeartbeats 4000000 in
theorem b_wreck {LW : LWt} {c : Nat} {σ τ : qMem} (hLW : LWc LW) (hc : c ≤ 600) (h : Inv LW c σ τ) (p1 p2 : Int32) : Both LW c (fX11_wreck p1 p2 σ) (fX12_wreck p1 p2 τ) := by
  obtain ⟨a1, l1, u1, rfl⟩ := zI_ex p1
  obtain ⟨a2, l2, u2, rfl⟩ := zI_ex p2
  have h0 := h
  obtain ⟨v, s1, s2, s3, s4, bk, kw, lw, im, tp, ms, rf, cc, rc, wo⟩ := h
  obtain ⟨y1, y2, y3, y4, y5, y6, y7, y8, y9, y10, y11⟩ := s1
  obtain ⟨t1, t2, t3, t4, t5, t6, t7, t8, t9, t10, t11, t12, t13⟩ := bk
  obtain ⟨k1, k2, k3, k4, k5, k6, k7, k8, k9, k10⟩ := kw
  have w0 : gi σ 23 0 = zI 5 := y5.1
  have w1 : gi σ 23 1 = zI 8 := y5.2
  have w3 : gi σ 23 3 = zI (kI (τ.1 2) 302) := t7.1.trans (zI_of _).symm
  have hr := k5.1
  have gn : gi τ 2 (Int.toNat 302) = zI (kI (τ.1 2) 302) := (zI_of _).symm
  generalize hnn : kI (τ.1 2) 302 = n at *
  unfold fX11_wreck fX12_wreck fX12_wreck_b14
  simp (disch := omega) only [zl_0, zl_1, zl_2, zl_3, zl_4, zl_5, zl_6, zl_7, zl_8, zl_9, zl_10, zl_11, zl_12, zl_13, zl_14, zl_15, zl_16, zl_17, zl_18, zl_19, zl_20, zl_21, zl_22, zl_23, zl_24, zl_25, zl_26, zl_27, zl_28, zl_29, zl_30, zl_31, zl_32, zl_33, zl_34, zl_35, zl_36, zl_37, zl_38, zl_39, zl_40, zl_41, zl_42, zl_43, zl_44, zl_45, zl_46, zl_47, zl_48, zl_49, zl_50, zl_51, zl_57, zl_59, zl_60, zl_61, zl_62, zl_63, zl_64, zl_65, zl_66, zl_67, zl_68, zl_69, zl_70, zl_71, zl_72, zl_73, zl_74, zl_75, zl_76, zl_77, zl_78, zl_79, zl_80, zl_81, zl_86, zl_87, zl_88, zl_89, zl_91, zl_93, zl_97, zl_99, zl_100, zl_108, zl_110, zl_122, zl_144, zl_152, zl_188, zl_199, zl_200, zl_201, zl_204, zl_220, zl_224, zl_226, zl_238, zl_255, zl_268, zl_300, zl_301, zl_302, zl_303, zl_304, zl_305, zl_306, zl_307, zl_308, zl_309, zl_310, zl_312, zl_400, zl_401, zl_712, zl_768, zl_1000, zl_1112, zl_1500, zl_1568, zl_2224, zl_3000, zl_20100, zl_50176, zl_60000, zl_100000, zl_117648, zl_1000000, zl_10000000, zl_1000000000, zI_add, zI_sub, zI_mul, zI_neg, e_isBell, e_isIn, e_isBoat, e_ofSea, e_isPace, e_isRun, r_isBell, r_isSea, r_isBoat, r_isPace, e_in, Option.bind_some, eta2, nmI, nmM, zI_clamp, gn, zI_ckT, if_true, zI_le, zI_eq, bI_00, decide_eq_false_iff_not]
  by_cases q1 : 0 ≤ a1 ∧ a1 ≤ 31
  · skip
    by_cases q2 : 0 ≤ a2 ∧ a2 ≤ 31
    · skip
      simp only [q1, q2, and_true, and_false, true_and, false_and, and_self, not_true_eq_false, not_false_eq_true, if_true, if_false]
      by_cases qf : n = 8
      · rw [e_addChgF _ _ _ _ _ w1 w3 hr.1 qf (by omega), if_pos qf]
        exact both_refuse hLW h0 (by omega)
      · rw [if_neg qf]
        obtain ⟨σ1, e1, g1⟩ := e_addChg (n := 40) _ _ _ _ _ w0 w1 w3 (by omega) (by omega) hr.1 (by omega) (by omega) (by omega)
        rw [e1]
        exact acc_wreck (n := n) hLW hc h0 hnn.symm (by omega) q1 q2 g1 (gcnt2 0 0 0 (by omega) (by omega) gn)
    · simp only [q1, q2, and_true, and_false, true_and, false_and, and_self, not_true_eq_false, not_false_eq_true, if_true, if_false]
      exact both_refuse (w := -1) hLW h0 (by omega)
  · simp only [q1, and_true, and_false, true_and, false_and, and_self, not_true_eq_false, not_false_eq_true, if_true, if_false]
    exact both_refuse (w := -1) hLW h0 (by omega)
set_option maxHeartbeats 4000000 in
theorem b_shoal {LW : LWt} {c : Nat} {σ τ : qMem} (hLW : LWc LW) (hc : c ≤ 600) (h : Inv LW c σ τ) (p1 p2 p3 p4 p5 : Int32) : Both LW c (fX11_shoal p1 p2 p3 p4 p5 σ) (fX12_shoal p1 p2 p3 p4 p5 τ) := by
  obtain ⟨a1, l1, u1, rfl⟩ := zI_ex p1
  obtain ⟨a2, l2, u2, rfl⟩ := zI_ex p2
  obtain ⟨a3, l3, u3, rfl⟩ := zI_ex p3
  obtain ⟨a4, l4, u4, rfl⟩ := zI_ex p4
  obtain ⟨a5, l5, u5, rfl⟩ := zI_ex p5
  have h0 := h
  obtain ⟨v, s1, s2, s3, s4, bk, kw, lw, im, tp, ms, rf, cc, rc, wo⟩ := h
  obtain ⟨y1, y2, y3, y4, y5, y6, y7, y8, y9, y10, y11⟩ := s1
  obtain ⟨t1, t2, t3, t4, t5, t6, t7, t8, t9, t10, t11, t12, t13⟩ := bk
  obtain ⟨k1, k2, k3, k4, k5, k6, k7, k8, k9, k10⟩ := kw
  have w0 : gi σ 25 0 = zI 5 := y6.1
  have w1 : gi σ 25 1 = zI 6 := y6.2
  have w3 : gi σ 25 3 = zI (kI (τ.1 2) 308) := t8.1.trans (zI_of _).symm
  have hr := k6.1
  have gn : gi τ 2 (Int.toNat 308) = zI (kI (τ.1 2) 308) := (zI_of _).symm
  generalize hnn : kI (τ.1 2) 308 = n at *
  unfold fX11_shoal fX12_shoal fX11_shoal_b41 fX12_shoal_b47
  simp (disch := omega) only [zl_0, zl_1, zl_2, zl_3, zl_4, zl_5, zl_6, zl_7, zl_8, zl_9, zl_10, zl_11, zl_12, zl_13, zl_14, zl_15, zl_16, zl_17, zl_18, zl_19, zl_20, zl_21, zl_22, zl_23, zl_24, zl_25, zl_26, zl_27, zl_28, zl_29, zl_30, zl_31, zl_32, zl_33, zl_34, zl_35, zl_36, zl_37, zl_38, zl_39, zl_40, zl_41, zl_42, zl_43, zl_44, zl_45, zl_46, zl_47, zl_48, zl_49, zl_50, zl_51, zl_57, zl_59, zl_60, zl_61, zl_62, zl_63, zl_64, zl_65, zl_66, zl_67, zl_68, zl_69, zl_70, zl_71, zl_72, zl_73, zl_74, zl_75, zl_76, zl_77, zl_78, zl_79, zl_80, zl_81, zl_86, zl_87, zl_88, zl_89, zl_91, zl_93, zl_97, zl_99, zl_100, zl_108, zl_110, zl_122, zl_144, zl_152, zl_188, zl_199, zl_200, zl_201, zl_204, zl_220, zl_224, zl_226, zl_238, zl_255, zl_268, zl_300, zl_301, zl_302, zl_303, zl_304, zl_305, zl_306, zl_307, zl_308, zl_309, zl_310, zl_312, zl_400, zl_401, zl_712, zl_768, zl_1000, zl_1112, zl_1500, zl_1568, zl_2224, zl_3000, zl_20100, zl_50176, zl_60000, zl_100000, zl_117648, zl_1000000, zl_10000000, zl_1000000000, zI_add, zI_sub, zI_mul, zI_neg, e_isBell, e_isIn, e_isBoat, e_ofSea, e_isPace, e_isRun, r_isBell, r_isSea, r_isBoat, r_isPace, e_in, Option.bind_some, eta2, nmI, nmM, zI_clamp, gn, zI_ckT, if_true, zI_le, zI_eq, bI_00, decide_eq_false_iff_not]
  by_cases q1 : 0 ≤ a1 ∧ a1 ≤ 31
  · skip
    by_cases q2 : 0 ≤ a2 ∧ a2 ≤ 31
    · skip
      by_cases q3 : 0 ≤ a3 ∧ a3 ≤ 9
      · skip
        by_cases q4 : 0 ≤ a4 ∧ a4 ≤ 23
        · skip
          by_cases q5 : 0 ≤ a5 ∧ a5 ≤ 23
          · skip
            by_cases q6 : a4 ≤ a5
            · skip
              simp only [q1, q2, q3, q4, q5, q6, and_true, and_false, true_and, false_and, and_self, not_true_eq_false, not_false_eq_true, if_true, if_false]
              by_cases qf : n = 6
              · rw [e_addChgF _ _ _ _ _ w1 w3 hr.1 qf (by omega), if_pos qf]
                exact both_refuse hLW h0 (by omega)
              · rw [if_neg qf]
                obtain ⟨σ1, e1, g1⟩ := e_addChg (n := 30) _ _ _ _ _ w0 w1 w3 (by omega) (by omega) hr.1 (by omega) (by omega) (by omega)
                rw [e1]
                exact acc_shoal (n := n) hLW hc h0 hnn.symm (by omega) q1 q2 q3 q4 q5 g1 (gcnt5 (by omega) (by omega) (by omega) (by omega) (by omega) gn)
            · simp only [q1, q2, q3, q4, q5, q6, and_true, and_false, true_and, false_and, and_self, not_true_eq_false, not_false_eq_true, if_true, if_false]
              exact both_refuse (w := -1) hLW h0 (by omega)
          · simp only [q1, q2, q3, q4, q5, and_true, and_false, true_and, false_and, and_self, not_true_eq_false, not_false_eq_true, if_true, if_false]
            exact both_refuse (w := -1) hLW h0 (by omega)
        · simp only [q1, q2, q3, q4, and_true, and_false, true_and, false_and, and_self, not_true_eq_false, not_false_eq_true, if_true, if_false]
          exact both_refuse (w := -1) hLW h0 (by omega)
      · simp only [q1, q2, q3, and_true, and_false, true_and, false_and, and_self, not_true_eq_false, not_false_eq_true, if_true, if_false]
        exact both_refuse (w := -1) hLW h0 (by omega)
    · simp only [q1, q2, and_true, and_false, true_and, false_and, and_self, not_true_eq_false, not_false_eq_true, if_true, if_false]
      exact both_refuse (w := -1) hLW h0 (by omega)
  · simp only [q1, and_true, and_false, true_and, false_and, and_self, not_true_eq_false, not_false_eq_true, if_true, if_false]
    exact both_refuse (w := -1) hLW h0 (by omega)
set_option maxHeartbeats 4000000 in
theorem b_guess {LW : LWt} {c : Nat} {σ τ : qMem} (hLW : LWc LW) (hc : c ≤ 600) (h : Inv LW c σ τ) (p1 p2 p3 p4 : Int32) : Both LW c (fX11_guess p1 p2 p3 p4 σ) (fX12_guess p1 p2 p3 p4 τ) := by
  obtain ⟨a1, l1, u1, rfl⟩ := zI_ex p1
  obtain ⟨a2, l2, u2, rfl⟩ := zI_ex p2
  obtain ⟨a3, l3, u3, rfl⟩ := zI_ex p3
  obtain ⟨a4, l4, u4, rfl⟩ := zI_ex p4
  have h0 := h
  obtain ⟨v, s1, s2, s3, s4, bk, kw, lw, im, tp, ms, rf, cc, rc, wo⟩ := h
  obtain ⟨y1, y2, y3, y4, y5, y6, y7, y8, y9, y10, y11⟩ := s1
  obtain ⟨t1, t2, t3, t4, t5, t6, t7, t8, t9, t10, t11, t12, t13⟩ := bk
  obtain ⟨k1, k2, k3, k4, k5, k6, k7, k8, k9, k10⟩ := kw
  have w0 : gi σ 27 0 = zI 4 := y7.1
  have w1 : gi σ 27 1 = zI 8 := y7.2
  have w3 : gi σ 27 3 = zI (kI (τ.1 2) 309) := t9.1.trans (zI_of _).symm
  have hr := k7.1
  have gn : gi τ 2 (Int.toNat 309) = zI (kI (τ.1 2) 309) := (zI_of _).symm
  generalize hnn : kI (τ.1 2) 309 = n at *
  unfold fX11_guess fX12_guess fX12_guess_b29
  simp (disch := omega) only [zl_0, zl_1, zl_2, zl_3, zl_4, zl_5, zl_6, zl_7, zl_8, zl_9, zl_10, zl_11, zl_12, zl_13, zl_14, zl_15, zl_16, zl_17, zl_18, zl_19, zl_20, zl_21, zl_22, zl_23, zl_24, zl_25, zl_26, zl_27, zl_28, zl_29, zl_30, zl_31, zl_32, zl_33, zl_34, zl_35, zl_36, zl_37, zl_38, zl_39, zl_40, zl_41, zl_42, zl_43, zl_44, zl_45, zl_46, zl_47, zl_48, zl_49, zl_50, zl_51, zl_57, zl_59, zl_60, zl_61, zl_62, zl_63, zl_64, zl_65, zl_66, zl_67, zl_68, zl_69, zl_70, zl_71, zl_72, zl_73, zl_74, zl_75, zl_76, zl_77, zl_78, zl_79, zl_80, zl_81, zl_86, zl_87, zl_88, zl_89, zl_91, zl_93, zl_97, zl_99, zl_100, zl_108, zl_110, zl_122, zl_144, zl_152, zl_188, zl_199, zl_200, zl_201, zl_204, zl_220, zl_224, zl_226, zl_238, zl_255, zl_268, zl_300, zl_301, zl_302, zl_303, zl_304, zl_305, zl_306, zl_307, zl_308, zl_309, zl_310, zl_312, zl_400, zl_401, zl_712, zl_768, zl_1000, zl_1112, zl_1500, zl_1568, zl_2224, zl_3000, zl_20100, zl_50176, zl_60000, zl_100000, zl_117648, zl_1000000, zl_10000000, zl_1000000000, zI_add, zI_sub, zI_mul, zI_neg, e_isBell, e_isIn, e_isBoat, e_ofSea, e_isPace, e_isRun, r_isBell, r_isSea, r_isBoat, r_isPace, e_in, Option.bind_some, eta2, nmI, nmM, zI_clamp, gn, zI_ckT, if_true, zI_le, zI_eq, bI_00, decide_eq_false_iff_not]
  by_cases q1 : 0 ≤ a1 ∧ a1 ≤ 31
  · skip
    by_cases q2 : 0 ≤ a2 ∧ a2 ≤ 31
    · skip
      by_cases q3 : -3 ≤ a3 ∧ a3 ≤ 3
      · skip
        by_cases q4 : -3 ≤ a4 ∧ a4 ≤ 3
        · skip
          simp only [q1, q2, q3, q4, and_true, and_false, true_and, false_and, and_self, not_true_eq_false, not_false_eq_true, if_true, if_false]
          by_cases qf : n = 8
          · rw [e_addToF _ _ _ _ _ w1 w3 hr.1 qf (by omega), if_pos qf]
            exact both_refuse hLW h0 (by omega)
          · rw [if_neg qf]
            obtain ⟨σ1, e1, g1⟩ := e_addTo (n := 32) _ _ _ _ _ w0 w1 w3 (by omega) (by omega) hr.1 (by omega) (by omega) (by omega)
            rw [e1]
            exact acc_guess (n := n) hLW hc h0 hnn.symm (by omega) q1 q2 q3 q4 g1 (gcnt4 0 (by omega) (by omega) (by omega) (by omega) gn)
        · simp only [q1, q2, q3, q4, and_true, and_false, true_and, false_and, and_self, not_true_eq_false, not_false_eq_true, if_true, if_false]
          exact both_refuse (w := -1) hLW h0 (by omega)
      · simp only [q1, q2, q3, and_true, and_false, true_and, false_and, and_self, not_true_eq_false, not_false_eq_true, if_true, if_false]
        exact both_refuse (w := -1) hLW h0 (by omega)
    · simp only [q1, q2, and_true, and_false, true_and, false_and, and_self, not_true_eq_false, not_false_eq_true, if_true, if_false]
      exact both_refuse (w := -1) hLW h0 (by omega)
  · simp only [q1, and_true, and_false, true_and, false_and, and_self, not_true_eq_false, not_false_eq_true, if_true, if_false]
    exact both_refuse (w := -1) hLW h0 (by omega)
set_option maxHeartbeats 4000000 in
theorem b_offer {LW : LWt} {c : Nat} {σ τ : qMem} (hLW : LWc LW) (hc : c ≤ 600) (h : Inv LW c σ τ) (p1 p2 : Int32) : Both LW c (fX11_offer p1 p2 σ) (fX12_offer p1 p2 τ) := by
  obtain ⟨a1, l1, u1, rfl⟩ := zI_ex p1
  obtain ⟨a2, l2, u2, rfl⟩ := zI_ex p2
  have h0 := h
  obtain ⟨v, s1, s2, s3, s4, bk, kw, lw, im, tp, ms, rf, cc, rc, wo⟩ := h
  obtain ⟨y1, y2, y3, y4, y5, y6, y7, y8, y9, y10, y11⟩ := s1
  obtain ⟨t1, t2, t3, t4, t5, t6, t7, t8, t9, t10, t11, t12, t13⟩ := bk
  obtain ⟨k1, k2, k3, k4, k5, k6, k7, k8, k9, k10⟩ := kw
  have w0 : gi σ 29 0 = zI 2 := y8.1
  have w1 : gi σ 29 1 = zI 8 := y8.2
  have w3 : gi σ 29 3 = zI (kI (τ.1 2) 303) := t10.1.trans (zI_of _).symm
  have hr := k8.1
  have gn : gi τ 2 (Int.toNat 303) = zI (kI (τ.1 2) 303) := (zI_of _).symm
  generalize hnn : kI (τ.1 2) 303 = n at *
  unfold fX11_offer fX12_offer fX12_offer_b14
  simp (disch := omega) only [zl_0, zl_1, zl_2, zl_3, zl_4, zl_5, zl_6, zl_7, zl_8, zl_9, zl_10, zl_11, zl_12, zl_13, zl_14, zl_15, zl_16, zl_17, zl_18, zl_19, zl_20, zl_21, zl_22, zl_23, zl_24, zl_25, zl_26, zl_27, zl_28, zl_29, zl_30, zl_31, zl_32, zl_33, zl_34, zl_35, zl_36, zl_37, zl_38, zl_39, zl_40, zl_41, zl_42, zl_43, zl_44, zl_45, zl_46, zl_47, zl_48, zl_49, zl_50, zl_51, zl_57, zl_59, zl_60, zl_61, zl_62, zl_63, zl_64, zl_65, zl_66, zl_67, zl_68, zl_69, zl_70, zl_71, zl_72, zl_73, zl_74, zl_75, zl_76, zl_77, zl_78, zl_79, zl_80, zl_81, zl_86, zl_87, zl_88, zl_89, zl_91, zl_93, zl_97, zl_99, zl_100, zl_108, zl_110, zl_122, zl_144, zl_152, zl_188, zl_199, zl_200, zl_201, zl_204, zl_220, zl_224, zl_226, zl_238, zl_255, zl_268, zl_300, zl_301, zl_302, zl_303, zl_304, zl_305, zl_306, zl_307, zl_308, zl_309, zl_310, zl_312, zl_400, zl_401, zl_712, zl_768, zl_1000, zl_1112, zl_1500, zl_1568, zl_2224, zl_3000, zl_20100, zl_50176, zl_60000, zl_100000, zl_117648, zl_1000000, zl_10000000, zl_1000000000, zI_add, zI_sub, zI_mul, zI_neg, e_isBell, e_isIn, e_isBoat, e_ofSea, e_isPace, e_isRun, r_isBell, r_isSea, r_isBoat, r_isPace, e_in, Option.bind_some, eta2, nmI, nmM, zI_clamp, gn, zI_ckT, if_true, zI_le, zI_eq, bI_00, decide_eq_false_iff_not]
  by_cases q1 : -3 ≤ a1 ∧ a1 ≤ 3
  · skip
    by_cases q2 : -3 ≤ a2 ∧ a2 ≤ 3
    · skip
      simp only [q1, q2, and_true, and_false, true_and, false_and, and_self, not_true_eq_false, not_false_eq_true, if_true, if_false]
      by_cases qf : n = 8
      · rw [e_addToF _ _ _ _ _ w1 w3 hr.1 qf (by omega), if_pos qf]
        exact both_refuse hLW h0 (by omega)
      · rw [if_neg qf]
        obtain ⟨σ1, e1, g1⟩ := e_addTo (n := 16) _ _ _ _ _ w0 w1 w3 (by omega) (by omega) hr.1 (by omega) (by omega) (by omega)
        rw [e1]
        exact acc_offer (n := n) hLW hc h0 hnn.symm (by omega) q1 q2 g1 (gcnt2 0 0 0 (by omega) (by omega) gn)
    · simp only [q1, q2, and_true, and_false, true_and, false_and, and_self, not_true_eq_false, not_false_eq_true, if_true, if_false]
      exact both_refuse (w := -1) hLW h0 (by omega)
  · simp only [q1, and_true, and_false, true_and, false_and, and_self, not_true_eq_false, not_false_eq_true, if_true, if_false]
    exact both_refuse (w := -1) hLW h0 (by omega)
set_option maxHeartbeats 4000000 in
theorem b_beat {LW : LWt} {c : Nat} {σ τ : qMem} (hLW : LWc LW) (hc : c ≤ 600) (h : Inv LW c σ τ) (p1 : Int32) : Both LW c (fX11_beat p1 σ) (fX12_beat p1 τ) := by
  obtain ⟨a1, l1, u1, rfl⟩ := zI_ex p1
  have h0 := h
  obtain ⟨v, s1, s2, s3, s4, bk, kw, lw, im, tp, ms, rf, cc, rc, wo⟩ := h
  obtain ⟨y1, y2, y3, y4, y5, y6, y7, y8, y9, y10, y11⟩ := s1
  obtain ⟨t1, t2, t3, t4, t5, t6, t7, t8, t9, t10, t11, t12, t13⟩ := bk
  obtain ⟨k1, k2, k3, k4, k5, k6, k7, k8, k9, k10⟩ := kw
  have w0 : gi σ 31 0 = zI 1 := y9.1
  have w1 : gi σ 31 1 = zI 6 := y9.2
  have w3 : gi σ 31 3 = zI (kI (τ.1 2) 304) := t11.1.trans (zI_of _).symm
  have hr := k9.1
  have gn : gi τ 2 (Int.toNat 304) = zI (kI (τ.1 2) 304) := (zI_of _).symm
  generalize hnn : kI (τ.1 2) 304 = n at *
  unfold fX11_beat fX12_beat
  simp (disch := omega) only [zl_0, zl_1, zl_2, zl_3, zl_4, zl_5, zl_6, zl_7, zl_8, zl_9, zl_10, zl_11, zl_12, zl_13, zl_14, zl_15, zl_16, zl_17, zl_18, zl_19, zl_20, zl_21, zl_22, zl_23, zl_24, zl_25, zl_26, zl_27, zl_28, zl_29, zl_30, zl_31, zl_32, zl_33, zl_34, zl_35, zl_36, zl_37, zl_38, zl_39, zl_40, zl_41, zl_42, zl_43, zl_44, zl_45, zl_46, zl_47, zl_48, zl_49, zl_50, zl_51, zl_57, zl_59, zl_60, zl_61, zl_62, zl_63, zl_64, zl_65, zl_66, zl_67, zl_68, zl_69, zl_70, zl_71, zl_72, zl_73, zl_74, zl_75, zl_76, zl_77, zl_78, zl_79, zl_80, zl_81, zl_86, zl_87, zl_88, zl_89, zl_91, zl_93, zl_97, zl_99, zl_100, zl_108, zl_110, zl_122, zl_144, zl_152, zl_188, zl_199, zl_200, zl_201, zl_204, zl_220, zl_224, zl_226, zl_238, zl_255, zl_268, zl_300, zl_301, zl_302, zl_303, zl_304, zl_305, zl_306, zl_307, zl_308, zl_309, zl_310, zl_312, zl_400, zl_401, zl_712, zl_768, zl_1000, zl_1112, zl_1500, zl_1568, zl_2224, zl_3000, zl_20100, zl_50176, zl_60000, zl_100000, zl_117648, zl_1000000, zl_10000000, zl_1000000000, zI_add, zI_sub, zI_mul, zI_neg, e_isBell, e_isIn, e_isBoat, e_ofSea, e_isPace, e_isRun, r_isBell, r_isSea, r_isBoat, r_isPace, e_in, Option.bind_some, eta2, nmI, nmM, zI_clamp, gn, zI_ckT, if_true, zI_le, zI_eq, bI_00, decide_eq_false_iff_not]
  by_cases q1 : 1 ≤ a1 ∧ a1 ≤ 3000
  · skip
    simp only [q1, and_true, and_false, true_and, false_and, and_self, not_true_eq_false, not_false_eq_true, if_true, if_false]
    by_cases qf : n = 6
    · rw [e_addToF _ _ _ _ _ w1 w3 hr.1 qf (by omega), if_pos qf]
      obtain ⟨v1, σ2, τ2, e1, e2, e3⟩ := both_refuse (w := -5) hLW h0 (by omega)
      have e4 : fX12_refuses (zI (-5)) τ = some (zI (-5), si (si τ 0 0 (zI (-5))) 1 5 (gi (si τ 0 0 (zI (-5))) 1 5 + 1)) := rfl
      have e5 : v1 = zI (-5) := by rw [e4] at e2; exact (Prod.mk.inj (Option.some.inj e2)).1.symm
      refine ⟨v1, σ2, τ2, ?_, e2, e3⟩
      rw [e1, Option.bind_some, e5]
      simp (disch := omega) only [zI_le]
      rw [if_neg (by omega)]
    · rw [if_neg qf]
      obtain ⟨σ1, e1, g1⟩ := e_addTo (n := 6) _ _ _ _ _ w0 w1 w3 (by omega) (by omega) hr.1 (by omega) (by omega) (by omega)
      rw [e1]
      have e8 : ((fX11_accept (zI n) σ1).bind fun y2 => if zI 0 ≤ y2.fst then some (gi y2.snd 31 3, y2.snd) else some (y2.fst, y2.snd)) = fX11_accept (zI (n + 1)) σ1 := by
        show (if zI 0 ≤ zI n then some (gi (si σ1 0 13 0) 31 3, si σ1 0 13 0) else some (zI n, si σ1 0 13 0)) = some (zI (n + 1), si σ1 0 13 0)
        simp (disch := omega) only [zI_le]
        rw [if_pos hr.1, gi_si, if_neg (by omega), g1, if_pos ⟨rfl, rfl⟩]
      refine Both_L (a' := fX11_accept (zI (n + 1)) σ1) e8 ?_
      exact acc_beat (n := n) hLW hc h0 hnn.symm (by omega) q1 g1 (gcnt1 0 0 0 0 (by omega) gn)
  · simp only [q1, and_true, and_false, true_and, false_and, and_self, not_true_eq_false, not_false_eq_true, if_true, if_false]
    exact both_refuse (w := -1) hLW h0 (by omega)
set_option maxHeartbeats 4000000 in
theorem b_cell {LW : LWt} {c : Nat} {σ τ : qMem} (hLW : LWc LW) (hc : c ≤ 600) (h : Inv LW c σ τ) (p1 p2 : Int32) : Both LW c (fX11_cell p1 p2 σ) (fX12_cell p1 p2 τ) := by
  obtain ⟨a1, l1, u1, rfl⟩ := zI_ex p1
  obtain ⟨a2, l2, u2, rfl⟩ := zI_ex p2
  have h0 := h
  obtain ⟨v, s1, s2, s3, s4, bk, kw, lw, im, tp, ms, rf, cc, rc, wo⟩ := h
  obtain ⟨y1, y2, y3, y4, y5, y6, y7, y8, y9, y10, y11⟩ := s1
  obtain ⟨t1, t2, t3, t4, t5, t6, t7, t8, t9, t10, t11, t12, t13⟩ := bk
  obtain ⟨k1, k2, k3, k4, k5, k6, k7, k8, k9, k10⟩ := kw
  have w0 : gi σ 33 0 = zI 2 := y10.1
  have w1 : gi σ 33 1 = zI 6 := y10.2
  have w3 : gi σ 33 3 = zI (kI (τ.1 2) 305) := t12.1.trans (zI_of _).symm
  have hr := k10.1
  have gn : gi τ 2 (Int.toNat 305) = zI (kI (τ.1 2) 305) := (zI_of _).symm
  generalize hnn : kI (τ.1 2) 305 = n at *
  unfold fX11_cell fX12_cell fX11_cell_b20 fX12_cell_b20
  simp (disch := omega) only [zl_0, zl_1, zl_2, zl_3, zl_4, zl_5, zl_6, zl_7, zl_8, zl_9, zl_10, zl_11, zl_12, zl_13, zl_14, zl_15, zl_16, zl_17, zl_18, zl_19, zl_20, zl_21, zl_22, zl_23, zl_24, zl_25, zl_26, zl_27, zl_28, zl_29, zl_30, zl_31, zl_32, zl_33, zl_34, zl_35, zl_36, zl_37, zl_38, zl_39, zl_40, zl_41, zl_42, zl_43, zl_44, zl_45, zl_46, zl_47, zl_48, zl_49, zl_50, zl_51, zl_57, zl_59, zl_60, zl_61, zl_62, zl_63, zl_64, zl_65, zl_66, zl_67, zl_68, zl_69, zl_70, zl_71, zl_72, zl_73, zl_74, zl_75, zl_76, zl_77, zl_78, zl_79, zl_80, zl_81, zl_86, zl_87, zl_88, zl_89, zl_91, zl_93, zl_97, zl_99, zl_100, zl_108, zl_110, zl_122, zl_144, zl_152, zl_188, zl_199, zl_200, zl_201, zl_204, zl_220, zl_224, zl_226, zl_238, zl_255, zl_268, zl_300, zl_301, zl_302, zl_303, zl_304, zl_305, zl_306, zl_307, zl_308, zl_309, zl_310, zl_312, zl_400, zl_401, zl_712, zl_768, zl_1000, zl_1112, zl_1500, zl_1568, zl_2224, zl_3000, zl_20100, zl_50176, zl_60000, zl_100000, zl_117648, zl_1000000, zl_10000000, zl_1000000000, zI_add, zI_sub, zI_mul, zI_neg, e_isBell, e_isIn, e_isBoat, e_ofSea, e_isPace, e_isRun, r_isBell, r_isSea, r_isBoat, r_isPace, e_in, Option.bind_some, eta2, nmI, nmM, zI_clamp, gn, zI_ckT, if_true, zI_le, zI_eq, bI_00, decide_eq_false_iff_not]
  by_cases q1 : 0 ≤ a1 ∧ a1 ≤ 100
  · skip
    by_cases q2 : 0 ≤ a2 ∧ a2 ≤ 100
    · skip
      simp only [q1, q2, and_true, and_false, true_and, false_and, and_self, not_true_eq_false, not_false_eq_true, if_true, if_false]
      by_cases qf : n = 6
      · rw [e_addToF _ _ _ _ _ w1 w3 hr.1 qf (by omega), if_pos qf]
        exact both_refuse hLW h0 (by omega)
      · rw [if_neg qf]
        obtain ⟨σ1, e1, g1⟩ := e_addTo (n := 12) _ _ _ _ _ w0 w1 w3 (by omega) (by omega) hr.1 (by omega) (by omega) (by omega)
        rw [e1]
        exact acc_cell (n := n) hLW hc h0 hnn.symm (by omega) q1 q2 g1 (gcnt2 0 0 0 (by omega) (by omega) gn)
    · simp only [q1, q2, and_true, and_false, true_and, false_and, and_self, not_true_eq_false, not_false_eq_true, if_true, if_false]
      exact both_refuse (w := -1) hLW h0 (by omega)
  · simp only [q1, and_true, and_false, true_and, false_and, and_self, not_true_eq_false, not_false_eq_true, if_true, if_false]
    exact both_refuse (w := -1) hLW h0 (by omega)
