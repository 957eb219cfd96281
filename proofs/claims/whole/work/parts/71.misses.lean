/-! misses -/
theorem ready_of {σ σ1 σ2 : qMem} {κ : Nat → Int32} (a1 : sorts σ1.1 κ) (a3 : CI σ1.1 κ) (a4 : SC σ σ1) (t1 : tunes σ2.1 κ) (t3 : ∀ k j, ¬ (k = 17 ∨ (51 ≤ k ∧ k ≤ 56) ∨ k = 60 ∨ (k = 44 ∧ j = 16)) → gi σ2 k j = gi σ1 k j) : seen σ2.1 κ ∧ CI σ2.1 κ ∧ SC σ σ2 := by
  obtain ⟨bs, bk, kw, cc⟩ := a3
  have sc : SC σ σ2 := fun k j q => (t3 k j (by unfold scrC at q; omega)).trans (a4 k j q)
  have sc1 : SC σ1 σ2 := fun k j q => t3 k j (by unfold scrC at q; omega)
  have hr1 : rowS σ2.1 46 3 36 := ⟨(t3 46 0 (by omega)).trans cc.1.1, (t3 46 1 (by omega)).trans cc.1.2⟩
  have hr2 : rowS σ2.1 48 3 36 := ⟨(t3 48 0 (by omega)).trans cc.2.1.1, (t3 48 1 (by omega)).trans cc.2.1.2⟩
  have hso : sorts σ2.1 κ := by
    obtain ⟨x1, x2, x3⟩ := a1
    refine ⟨fun k hk => ?_, fun k hk => ?_, ?_⟩
    · show bt (gi σ2 44 12) k = _
      rw [t3 44 12 (by omega)]; exact x1 k hk
    · show bt (gi σ2 44 13) k = _
      rw [t3 44 13 (by omega)]; exact x2 k hk
    · exact freshAt_c (m := σ1.1) (m' := σ2.1) (fun k j hh => t3 k j (by omega)) x3
  have hcc : CC σ2.1 κ := by
    refine ⟨hr1, hr2, fun _ => hso, fun _ => t1, fun z => ?_, fun z => ?_⟩
    · have z2 : gi σ2 44 17 ≠ 0 := z
      rw [t3 44 17 (by omega)] at z2
      obtain ⟨p1, p2⟩ := cc.2.2.2.2.1 z2
      exact ⟨fun l hl => (t3 61 l (by omega)).trans (p1 l hl), (t3 44 14 (by omega)).trans p2⟩
    · have z2 : gi σ2 68 8 ≠ 0 := z
      rw [t3 68 8 (by omega)] at z2
      obtain ⟨q1, f, fr, q2, q3, q4⟩ := cc.2.2.2.2.2 z2
      exact ⟨fun k hk => (t3 72 k (by omega)).trans (q1 k hk), f, fr, (t3 68 6 (by omega)).trans q2, (t3 68 7 (by omega)).trans q3, q4⟩
  refine ⟨⟨?_, kw, hso.2.2, t1, hr1, hr2⟩, CI_of ⟨bs, bk, kw, cc⟩ sc1 hcc, sc⟩
  rw [bookK_c (m := σ1.1) (m' := σ2.1) (fun k j q1 q2 q3 q4 => t3 k j (by omega))]; exact bk
theorem tally_of {σ σ2 : qMem} {κ : Nat → Int32} (h : CI σ.1 κ) (f : ∀ k j, k ≠ 62 → k ≠ 63 → ¬ (69 ≤ k ∧ k ≤ 71) → gi σ2 k j = gi σ k j) : CI σ2.1 κ ∧ SC σ σ2 := by
  have sc : SC σ σ2 := fun k j q => f k j (by unfold scrC at q; omega) (by unfold scrC at q; omega) (by unfold scrC at q; omega)
  exact ⟨CI_of h sc (CC_c (m := σ.1) (m' := σ2.1) (fun k j q => f k j (by omega) (by omega) (by omega)) h.2.2.2), sc⟩
theorem mo_tab : ∀ p, p < 6 → ∀ P, P < 2 ^ p → ∀ b : Bool, zI (P : Nat) ||| (bI b <<< (zI (p : Nat) &&& 31)) = zI ((P + (if b then 2 ^ p else 0) : Nat)) := by decide +kernel
theorem md_succ (a p : Nat) : a % 2 ^ (p + 1) = a % 2 ^ p + (if a.testBit p then 2 ^ p else 0) := by
  rw [tb_div, Nat.pow_succ, Nat.mod_mul]
  rcases Nat.mod_two_eq_zero_or_one (a / 2 ^ p) with h | h <;> rw [h] <;> simp
theorem e_missesOf {N : Nat} {σ : qMem} {κ : Nat → Int32} {x y u v : Int} (hN : 200000 ≤ N) (h : CI σ.1 κ) (x0 : 0 ≤ x) (x1 : x ≤ 31) (y0 : 0 ≤ y) (y1 : y ≤ 31) (u0 : -3 ≤ u) (u1 : u ≤ 3) (v0 : -3 ≤ v) (v1 : v ≤ 3) :
    Ho (fX9_missesOf N (zI x) (zI y) (zI u) (zI v) σ) (fun a => a.1 = zI (missBest κ x y u v) ∧ SC σ a.2 ∧ CI a.2.1 κ ∧ ∀ k j, k = 68 ∨ k = 72 → gi a.2 k j = gi σ k j) := by
  unfold fX9_missesOf
  refine Ho_bind (e_sortOut hN h) fun σ1 ⟨a1, a2, a3, a4, a5⟩ => ?_
  have c1 := a3
  obtain ⟨bs, bk, kw, cc⟩ := c1
  refine Ho_bind (e_tune hN bk kw cc) fun σ2 ⟨t1, t2, t3⟩ => ?_
  obtain ⟨se, ci2, sc2⟩ := ready_of a1 a3 a4 t1 t3
  have sh : zI x * 7 + zI u + 3 = zI (x * 7 + u + 3) := by
    rw [show (7 : Int32) = zI 7 from rfl, show (3 : Int32) = zI 3 from rfl, zI_mul, zI_add, zI_add]
  rw [sh]
  refine Ho_bind (e_tally hN se (by omega) (by omega)) fun σ3 ⟨p3, f3⟩ => ?_
  obtain ⟨ci3, sc3⟩ := tally_of ci2 f3
  have b6 : (zI v + 3) * 6 = zI ((6 * (v + 3).toNat : Nat) : Int) := by
    rw [show (3 : Int32) = zI 3 from rfl, show (6 : Int32) = zI 6 from rfl, zI_add, zI_mul]; congr 1; omega
  rw [b6]
  have m36 := missBest_36 kw x y u v
  have hpl : ∀ p : Nat, p < 6 → (ushr (gi σ3 71 (6 * (v + 3).toNat + p)) (zI y)) &&& 1 = bI ((missBest κ x y u v).testBit p) := by
    intro p hp
    have e : gi σ3 71 (6 * (v + 3).toNat + p) = _ := p3 (v + 3).toNat p (by omega) hp
    rw [e, show zI y = nI y.toNat by rw [nI_zI]; congr 1; omega, wd_bit _ (by omega)]
    dsimp only
    rw [show (x * 7 + u + 3) / 7 = x by omega, show (x * 7 + u + 3) % 7 - 3 = u by omega, show ((y.toNat : Nat) : Int) = y by omega, show (((v + 3).toNat : Nat) : Int) - 3 = v by omega]
  have k68 : ∀ k j, k = 68 ∨ k = 72 → gi σ3 k j = gi σ k j := by
    intro k j hk
    rw [f3 k j (by omega) (by omega) (by omega), t3 k j (by omega), a5 k j (by unfold sortW; omega)]
  have hst := lp_for (S := Unit) (R := Int32 × qMem) (fun n p _ => fX9_missesOf_l41 N n (zI y) (zI ((6 * (v + 3).toNat : Nat) : Int)) (zI ((missBest κ x y u v % 2 ^ p.toNat : Nat) : Int)) (zI ((p.toNat : Nat) : Int)) σ3) (fun p _ => 0 ≤ p) (fun a => a.1 = zI (missBest κ x y u v) ∧ SC σ a.2 ∧ CI a.2.1 κ ∧ ∀ k j, k = 68 ∨ k = 72 → gi a.2 k j = gi σ k j) 6 ?_ ?_ N 0 () (by omega) (by omega) (by omega)
  · have e : missBest κ x y u v % 2 ^ (0 : Int).toNat = 0 := by show missBest κ x y u v % 1 = 0; exact Nat.mod_one _
    rw [e] at hst
    exact hst
  · intro n _ _
    show Ho (fX9_missesOf_s41 N _ _ _ _ _ _) _
    unfold fX9_missesOf_s41
    rw [if_pos (by decide)]
    refine Ho_some ⟨?_, SC_trans sc2 sc3, ci3, k68⟩
    show zI ((missBest κ x y u v % 64 : Nat) : Int) = _
    rw [Nat.mod_eq_of_lt (by omega)]
  · intro n p _ hp p0 hc
    show Ho (fX9_missesOf_s41 N _ _ _ _ _ _) _
    unfold fX9_missesOf_s41
    have c : (6 ≤ zI ((p.toNat : Nat) : Int)) = False := by rw [zl_6, zI_le (by omega) (by omega) (by omega) (by omega)]; exact eq_false (by omega)
    have ad : zI ((6 * (v + 3).toNat : Nat) : Int) + zI ((p.toNat : Nat) : Int) = zI ((6 * (v + 3).toNat + p.toNat : Nat) : Int) := by rw [zI_add]; congr 1
    have ck8 : (ck (zI ((6 * (v + 3).toNat + p.toNat : Nat) : Int)) 42 = true) = True := zI_ckT (by omega) (by omega) (by omega)
    have z8 : (zI ((6 * (v + 3).toNat + p.toNat : Nat) : Int)).toNatClampNeg = 6 * (v + 3).toNat + p.toNat := by rw [zI_clamp (by omega) (by omega)]; rfl
    have p1 : zI ((p.toNat : Nat) : Int) + 1 = zI (((p + 1).toNat : Nat) : Int) := by
      rw [show (1 : Int32) = zI 1 from rfl, zI_add]; congr 1; omega
    have lt : missBest κ x y u v % 2 ^ p.toNat < 2 ^ p.toNat := Nat.mod_lt _ (Nat.two_pow_pos _)
    simp only [c, if_false, ad, ck8, if_true, z8, p1, nmI, hpl p.toNat (by omega), mo_tab p.toNat (by omega) _ lt]
    have := hc () (by omega)
    rw [show (p + 1).toNat = p.toNat + 1 by omega, md_succ] at this
    rw [show (p + 1).toNat = p.toNat + 1 by omega]
    exact this
theorem RS_RC {t t' : qMem} {κ : Nat → Int32} (h : RS t κ t') (rc : RC t.1 κ) (hv : 0 ≤ (gi t 0 2).toInt) : RC t'.1 κ ∧ SM t t' := by
  obtain ⟨r1, r2, r3⟩ := h
  obtain ⟨b1, b2, b3, b4, b5, b6⟩ := rc
  have e2 : gi t' 0 2 = gi t 0 2 := r1 0 2 (by omega) (by omega)
  have e13 : gi t' 0 13 = gi t 0 13 := r1 0 13 (by omega) (by omega)
  have e15 : gi t' 0 15 = gi t 0 15 := r1 0 15 (by omega) (by omega)
  refine ⟨⟨?_, ?_, ?_, fun e => r2 e, fun e => ?_, fun e => ?_⟩, fun k j hk => r1 k j (by unfold scrM at hk; omega) (by unfold scrM at hk; omega)⟩
  · show -1 ≤ (gi t' 0 7).toInt ∧ (gi t' 0 7).toInt ≤ (gi t' 0 2).toInt
    rw [e2]
    rcases r3 with z | z
    · rw [z]; exact b1
    · rw [z]; omega
  · show -1 ≤ (gi t' 0 13).toInt ∧ (gi t' 0 13).toInt ≤ (gi t' 0 2).toInt
    rw [e2, e13]; exact b2
  · show -1 ≤ (gi t' 0 15).toInt ∧ (gi t' 0 15).toInt ≤ (gi t' 0 2).toInt
    rw [e2, e15]; exact b3
  · have e' : gi t' 0 13 = gi t' 0 2 := e
    rw [e2, e13] at e'
    obtain ⟨z1, z2⟩ := b5 e'
    exact ⟨fun r hr => (r1 7 r (by omega) (by omega)).trans (z1 r hr), (r1 0 12 (by omega) (by omega)).trans z2⟩
  · have e' : gi t' 0 15 = gi t' 0 2 := e
    rw [e2, e15] at e'
    obtain ⟨z1, z2⟩ := b6 e'
    exact ⟨fun r hr => (r1 8 r (by omega) (by omega)).trans (z1 r hr), newsOK_c (t := t.1) (t' := t'.1) (fun k j hh => r1 k j (by omega) (by omega)) z2⟩
theorem b_misses {LW : LWt} {c N : Nat} {σ τ : qMem} (hN : 200000 ≤ N) (hLW : LWc LW) (h : Inv LW c σ τ) (p1 p2 p3 p4 : Int32) : Both LW c (fX11_misses N p1 p2 p3 p4 σ) (fX12_misses N p1 p2 p3 p4 τ) := by
  obtain ⟨x, l1, u1, rfl⟩ := zI_ex p1
  obtain ⟨y, l2, u2, rfl⟩ := zI_ex p2
  obtain ⟨u, l3, u3, rfl⟩ := zI_ex p3
  obtain ⟨v, l4, u4, rfl⟩ := zI_ex p4
  unfold fX11_misses fX12_misses
  simp only [e_isRun l1 u1 l2 u2 l3 u3 l4 u4, r_isSea l1 u1, r_isSea l2 u2, r_isPace l3 u3, r_isPace l4 u4, Option.bind_some, if_bI, decide_eq_true_eq]
  by_cases q : ((0 ≤ x ∧ x ≤ 31) ∧ (0 ≤ y ∧ y ≤ 31)) ∧ ((-3 ≤ u ∧ u ≤ 3) ∧ (-3 ≤ v ∧ v ≤ 3))
  · rw [if_pos q, if_pos q.1.1, if_pos q.1.2, if_pos q.2.1, if_pos q.2.2]
    refine both_q (v := zI (missBest (τ.1 2) x y u v)) hLW h ?_ ?_
    · refine Ho_bind (e_missesOf hN (Inv_CI h) q.1.1.1 q.1.1.2 q.1.2.1 q.1.2.2 q.2.1.1 q.2.1.2 q.2.2.1 q.2.2.2) fun a ⟨w1, w2, w3, _⟩ => ?_
      exact Ho_some ⟨w1, w2, w3.2.2.2⟩
    · have kw := Inv_KW h
      refine Ho_bind (r_laysNews hN rfl kw) fun t ⟨n1, n2⟩ => ?_
      have sm := SM_news n2
      have rc := RC_news (Inv_RC h) n1 (fun k j => n2 k j)
      have hrs : RS t (τ.1 2) t := RS_refl rc.2.2.2.1
      refine Ho_bind (r_missedBest hN (SM_κ sm) kw n1 hrs q.1.1.1 q.1.1.2 q.1.2.1 q.1.2.2 q.2.1.1 q.2.1.2 q.2.2.1 q.2.2.2) fun a ⟨w1, w2⟩ => ?_
      obtain ⟨y1, y2⟩ := RS_RC w1 rc (Inv_v2 sm (Inv_v h))
      exact Ho_some ⟨w2, SM_trans sm y2, y1⟩
  · rw [if_neg q]
    by_cases q1 : 0 ≤ x ∧ x ≤ 31
    · rw [if_pos q1]
      by_cases q2 : 0 ≤ y ∧ y ≤ 31
      · rw [if_pos q2]
        by_cases q3 : -3 ≤ u ∧ u ≤ 3
        · rw [if_pos q3, if_neg (fun q4 => q ⟨⟨q1, q2⟩, q3, q4⟩)]
          exact both_same hLW h _
        · rw [if_neg q3]
          exact both_same hLW h _
      · rw [if_neg q2]
        exact both_same hLW h _
    · rw [if_neg q1]
      exact both_same hLW h _
