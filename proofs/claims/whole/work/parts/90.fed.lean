/-! the tape: feed -/
theorem nar_b (x : Int32) : vp_nar .byte x = x.toInt8.toInt32 := rfl
theorem b_byte (x : Int32) {i : Nat} (hi : i < 8) : bt x.toInt8.toInt32 i = bt x i := by
  unfold bt
  rw [Int8.toBitVec_toInt32, Int32.toBitVec_toInt8, BitVec.getLsbD_signExtend, BitVec.getLsbD_signExtend]
  simp [hi, show i < 32 by omega]
theorem byte_idem (x : Int32) : x.toInt8.toInt32.toInt8.toInt32 = x.toInt8.toInt32 := by
  rw [Int8.toInt8_toInt32]
theorem byte_eq (x : Int32) {n : Nat} (hn : n ≤ 24) : ushr x (nI n) &&& 255 = (x >>> (nI n &&& 31)).toInt8.toInt32 &&& 255 := by
  refine b_ext (fun i hi => ?_)
  rw [b_and, b_and, b_255]
  by_cases q : i < 8
  · rw [b_byte _ q, b_ushr n (by omega), b_sshr n (by omega) _ hi, if_pos (by omega)]
  · rw [decide_eq_false q, Bool.and_false, Bool.and_false]
def fedP (p : Int) (A : Nat → Int32) (σ : qMem) (n : Nat) (t : qMem) : Prop := gi t 0 10 = zI (p + 4 * (n : Int)) ∧ (∀ q : Nat, q < 4 * n → gi t 86 (p.toNat + q) = ushr (A (q / 4)) (nI (24 - 8 * (q % 4))) &&& 255) ∧ (∀ j, j < p.toNat → gi t 86 j = gi σ 86 j) ∧ ∀ k j, ¬ ((k = 0 ∧ j = 10) ∨ k = 86) → gi t k j = gi σ k j
theorem fed_step {N : Nat} {σ t : qMem} {A : Nat → Int32} {p : Int} {n : Nat} (hN : 200000 ≤ N) (p0 : 0 ≤ p) (p1 : p ≤ 380) (hn : n < 5) (h : fedP p A σ n t) : Ho (fX11_feedNumber N (A n) t) (fedP p A σ (n + 1)) := by
  obtain ⟨h1, h2, h3, h4⟩ := h
  refine Ho_mono (e_feedNumber (v := A n) hN h1 (by omega) (by omega)) (fun s ⟨e1, e2, e3, e4⟩ => ⟨by rw [e1]; congr 1; omega, fun q hq => ?_, fun j hj => by rw [e3 j (by omega)]; exact h3 j hj, fun k j hk => by rw [e4 k j hk]; exact h4 k j hk⟩)
  by_cases c : q < 4 * n
  · rw [e3 _ (by omega)]; exact h2 q c
  · have e := e2 (q - 4 * n) (by omega)
    rw [show (p + 4 * (n : Int)).toNat + (q - 4 * n) = p.toNat + q by omega] at e
    rw [e, show q / 4 = n by omega, nI_zI]
    congr 3
    omega
theorem e_feed {N : Nat} {σ : qMem} {a b c d e : Int32} {p : Int} (hN : 200000 ≤ N) (hp : gi σ 0 10 = zI p) (p0 : 0 ≤ p) (p1 : p ≤ 380) :
    Ho (fX11_feed N a b c d e σ) (fun y => y.1 = zI (p + 20) ∧ fedP p (v5 a b c d e) σ 5 y.2) := by
  unfold fX11_feed
  have c0 : (gi σ 0 10 + 20 ≤ 400) = True := by rw [hp, show (20 : Int32) = zI 20 from rfl, zI_add, zl_400, zI_le (by omega) (by omega) (by omega) (by omega)]; exact eq_true (by omega)
  rw [if_pos (c0 ▸ trivial)]
  have f0 : fedP p (v5 a b c d e) σ 0 σ := ⟨by rw [hp]; congr 1; omega, fun q hq => by omega, fun _ _ => rfl, fun _ _ _ => rfl⟩
  refine Ho_bind (fed_step (A := v5 a b c d e) hN p0 p1 (by omega) f0) (fun y1 f1 => ?_)
  refine Ho_bind (fed_step (A := v5 a b c d e) hN p0 p1 (by omega) f1) (fun y2 f2 => ?_)
  refine Ho_bind (fed_step (A := v5 a b c d e) hN p0 p1 (by omega) f2) (fun y3 f3 => ?_)
  refine Ho_bind (fed_step (A := v5 a b c d e) hN p0 p1 (by omega) f3) (fun y4 f4 => ?_)
  refine Ho_bind (fed_step (A := v5 a b c d e) hN p0 p1 (by omega) f4) (fun y5 f5 => ?_)
  exact Ho_some ⟨f5.1, f5⟩
theorem r_feed {N : Nat} {τ : qMem} {a b c d e : Int32} {p : Int} (hN : 200000 ≤ N) (hp : gi τ 0 28 = zI p) (p0 : 0 ≤ p) (p1 : p ≤ 380) :
    Ho (fX12_feed N a b c d e τ) (fun y => y.1 = zI (p + 20) ∧ gi y.2 0 28 = zI (p + 20) ∧ (∀ q : Nat, q < 20 → gi y.2 18 (p.toNat + q) = (v5 a b c d e (q / 4) >>> (nI (24 - 8 * (q % 4)) &&& 31)).toInt8.toInt32) ∧ (∀ j, j < p.toNat → gi y.2 18 j = gi τ 18 j) ∧ ∀ k j, ¬ ((k = 0 ∧ j = 28) ∨ k = 18 ∨ k = 19) → gi y.2 k j = gi τ k j) := by
  unfold fX12_feed
  have c0 : (gi τ 0 28 + 20 ≤ 400) = True := by rw [hp, show (20 : Int32) = zI 20 from rfl, zI_add, zl_400, zI_le (by omega) (by omega) (by omega) (by omega)]; exact eq_true (by omega)
  rw [if_pos (c0 ▸ trivial), if_pos (by decide)]
  simp only [nmM]
  rw [if_pos (by decide), if_pos (by decide), if_pos (by decide), if_pos (by decide)]
  have gch := gch5 (τ := τ) (r := 19) (a0 := (0 : Int32).toNatClampNeg) (a1 := (1 : Int32).toNatClampNeg) (a2 := (2 : Int32).toNatClampNeg) (a3 := (3 : Int32).toNatClampNeg) (a4 := (4 : Int32).toNatClampNeg) (x := a) (y := b) (z := c) (p := d) (q := e) (by decide) (by decide) (by decide) (by decide)
  rw [show (0 : Int32).toNatClampNeg = 0 from rfl] at gch
  generalize hs : si (si (si (si (si τ 19 (0 : Int32).toNatClampNeg a) 19 (1 : Int32).toNatClampNeg b) 19 (2 : Int32).toNatClampNeg c) 19 (3 : Int32).toNatClampNeg d) 19 (4 : Int32).toNatClampNeg e = s0
  have gc : ∀ k j, gi s0 k j = if k = 19 ∧ 0 ≤ j ∧ j < 0 + 5 then v5 a b c d e (j - 0) else gi τ k j := by rw [← hs]; exact gch
  have hst := lp_for (S := qMem) (R := Int32 × qMem) (fun n i s => fX12_feed_l55 N n (zI i) s) (fun i s => 0 ≤ i ∧ gi s 0 28 = zI p ∧ (∀ k, k < 5 → gi s 19 k = v5 a b c d e k) ∧ (∀ q : Nat, (q : Int) < i → gi s 18 (p.toNat + q) = (v5 a b c d e (q / 4) >>> (nI (24 - 8 * (q % 4)) &&& 31)).toInt8.toInt32) ∧ (∀ j, j < p.toNat → gi s 18 j = gi τ 18 j) ∧ ∀ k j, ¬ ((k = 0 ∧ j = 28) ∨ k = 18 ∨ k = 19) → gi s k j = gi τ k j) (fun y => y.1 = zI (p + 20) ∧ gi y.2 0 28 = zI (p + 20) ∧ (∀ q : Nat, q < 20 → gi y.2 18 (p.toNat + q) = (v5 a b c d e (q / 4) >>> (nI (24 - 8 * (q % 4)) &&& 31)).toInt8.toInt32) ∧ (∀ j, j < p.toNat → gi y.2 18 j = gi τ 18 j) ∧ ∀ k j, ¬ ((k = 0 ∧ j = 28) ∨ k = 18 ∨ k = 19) → gi y.2 k j = gi τ k j) 20 ?_ ?_ N 0 s0 (by omega) (by omega) ⟨by omega, by rw [gc, if_neg (by omega)]; exact hp, fun k hk => by rw [gc, if_pos ⟨rfl, by omega, by omega⟩]; rfl, fun q hq => by omega, fun j _ => by rw [gc, if_neg (by omega)], fun k j hk => by rw [gc, if_neg (by omega)]⟩
  · exact hst
  · intro n s ⟨_, h1, h2, h3, h4, h5⟩
    show Ho (fX12_feed_s55 N _ _ _) _
    unfold fX12_feed_s55
    rw [if_pos (by decide)]
    simp only [nmM]
    have g : gi (si s 0 28 (gi s 0 28 + 20)) 0 28 = zI (p + 20) := by rw [gi_si, if_pos ⟨rfl, rfl⟩, h1, show (20 : Int32) = zI 20 from rfl, zI_add]
    refine Ho_some ⟨g, g, fun q hq => ?_, fun j hj => ?_, fun k j hk => ?_⟩
    · rw [gi_si, if_neg (by omega)]; exact h3 q (by omega)
    · rw [gi_si, if_neg (by omega)]; exact h4 j hj
    · rw [gi_si, if_neg (by omega)]; exact h5 k j hk
  · intro n i s hi ⟨i0, h1, h2, h3, h4, h5⟩ hc
    show Ho (fX12_feed_s55 N _ _ _) _
    unfold fX12_feed_s55
    have c1 : (20 ≤ zI i) = False := by rw [show (20 : Int32) = zI 20 from rfl, zI_le (by omega) (by omega) (by omega) (by omega)]; exact eq_false (by omega)
    have dv : zI i / 4 = zI (i / 4) := by rw [show (4 : Int32) = zI 4 from rfl, zI_divp (by omega) (by omega) (by omega) (by omega)]
    have rm : irm (zI i) 4 = zI (i % 4) := by rw [show (4 : Int32) = zI 4 from rfl, zI_rem (by omega) (by omega) (by omega) (by omega)]
    have c2 : (ck (zI (i / 4)) 5 = true) = True := zI_ckT (by omega) (by omega) (by omega)
    have c3 : (ck (zI (p + i)) 400 = true) = True := zI_ckT (by omega) (by omega) (by omega)
    have z1 : (zI (i / 4)).toNatClampNeg = (i / 4).toNat := zI_clamp (by omega) (by omega)
    have z2 : (zI (p + i)).toNatClampNeg = (p + i).toNat := zI_clamp (by omega) (by omega)
    have sh : (24 : Int32) - 8 * zI (i % 4) = nI (24 - 8 * (i % 4).toNat) := by
      rw [show (8 : Int32) = zI 8 from rfl, zI_mul, show (24 : Int32) = zI 24 from rfl, zI_sub, nI_zI]
      congr 1
      omega
    have nx : zI i + 1 = zI (i + 1) := by rw [show (1 : Int32) = zI 1 from rfl, zI_add]
    simp only [c1, if_false, dv, rm, h1, zI_add, c2, c3, if_true, z1, z2, sh, nmM, nx, nar_b, byte_idem]
    rw [h2 _ (by omega)]
    refine hc _ ⟨by omega, by rw [gi_si, if_neg (by omega)]; exact h1, fun k hk => by rw [gi_si, if_neg (by omega)]; exact h2 k hk, fun q hq => ?_, fun j hj => ?_, fun k j hk => ?_⟩
    · rw [gi_si]
      by_cases e : (q : Int) = i
      · rw [if_pos ⟨rfl, by omega⟩, show (i / 4).toNat = q / 4 by omega, show (i % 4).toNat = q % 4 by omega]
      · rw [if_neg (by omega)]; exact h3 q (by omega)
    · rw [gi_si, if_neg (by omega)]; exact h4 j hj
    · rw [gi_si, if_neg (by omega)]; exact h5 k j hk
theorem b_feed {LW : LWt} {c : Nat} {σ τ : qMem} {N : Nat} (hN : 200000 ≤ N) (hLW : LWc LW) (h : Inv LW c σ τ) (p1 p2 p3 p4 p5 : Int32) : Both LW c (fX11_feed N p1 p2 p3 p4 p5 σ) (fX12_feed N p1 p2 p3 p4 p5 τ) := by
  obtain ⟨t1, t2, t3, t4⟩ := Inv_tp h
  have en : gi τ 0 28 = zI (gi τ 0 28).toInt := (zI_of _).symm
  by_cases q : (gi τ 0 28).toInt ≤ 380
  · obtain ⟨y, ey, y1, f1, f2, f3, f4⟩ := Ho_get (e_feed (a := p1) (b := p2) (c := p3) (d := p4) (e := p5) hN (t1.trans en) t2 q)
    obtain ⟨z, ez, z1, g1, g2, g3, g4⟩ := Ho_get (r_feed (a := p1) (b := p2) (c := p3) (d := p4) (e := p5) hN en t2 q)
    refine ⟨zI ((gi τ 0 28).toInt + 20), y.2, z.2, ?_, ?_, Inv_tape hLW h f4 g4 ?_⟩
    · rw [ey, ← y1]
    · rw [ez, ← z1]
    · unfold tapeR
      rw [f1, g1]
      rw [zI_toInt (by omega) (by omega)]
      refine ⟨by congr 1, by omega, by omega, fun j hj => ?_⟩
      by_cases q2 : j < (gi τ 0 28).toInt.toNat
      · rw [f3 j q2, g3 j q2]
        exact t4 j (by omega)
      · obtain ⟨i, rfl⟩ : ∃ i, j = (gi τ 0 28).toInt.toNat + i := ⟨j - (gi τ 0 28).toInt.toNat, by omega⟩
        rw [f2 i (by omega), g2 i (by omega)]
        exact ⟨(byte_idem _).symm, byte_eq _ (by omega)⟩
  · unfold fX11_feed fX12_feed
    have c0 : (gi τ 0 28 + 20 ≤ 400) = False := by rw [en, show (20 : Int32) = zI 20 from rfl, zI_add, zl_400, zI_le (by omega) (by omega) (by omega) (by omega)]; exact eq_false (by omega)
    rw [t1, if_neg (c0 ▸ id), if_neg (c0 ▸ id)]
    exact both_same hLW h _
