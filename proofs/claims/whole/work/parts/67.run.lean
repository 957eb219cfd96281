/-! run -/
def fld (m : Int) (R : Nat) : Int := if m = 0 then ((R / 1568 : Nat) : Int) else if m = 1 then ((R / 49 % 32 : Nat) : Int) else if m = 2 then ((R / 7 % 7 : Nat) : Int) - 3 else ((R % 7 : Nat) : Int) - 3
theorem kth_le {F : Nat → Bool} {R k t : Nat} (hf : F R = true) (hk : fb_ct F R = k) : fb_ct F t ≤ k ↔ t ≤ R := by
  constructor
  · intro h
    rcases Nat.lt_or_ge R t with q | q
    · have := fb_ct_mono F (show R + 1 ≤ t by omega)
      rw [fb_ct_succ, hf, hk, if_pos rfl] at this
      omega
    · exact q
  · intro h
    rw [← hk]
    exact fb_ct_mono F h
theorem ct_single (G : Nat → Bool) (y : Nat) : ∀ n, fb_ct (fun j => G j && decide (j = y)) n = if y < n ∧ G y = true then 1 else 0
  | 0 => by rw [if_neg (by omega)]; rfl
  | n + 1 => by
    rw [fb_ct_succ, ct_single G y n]
    by_cases q : n = y
    · subst q
      rw [if_neg (by omega), decide_eq_true rfl, Bool.and_true]
      cases G n <;> simp
    · rw [decide_eq_false q, Bool.and_false, if_neg (c := false = true) (by decide), Nat.add_zero]
      by_cases q2 : y < n
      · cases G y <;> simp [q2, show y < n + 1 by omega]
      · rw [if_neg (fun h => q2 h.1), if_neg (fun h => by omega)]
theorem sheet_ct (F : Nat → Bool) (x : Nat) : fb_ct F (1568 * x) + fb_sm (fun k => fb_ct (fun y => F (laneR (49 * x + k) y) && true) 32) 49 = fb_ct F (1568 * x + 1568) := by
  rw [fb_ct_split F (1568 * x) 1568]
  congr 1
  have e : fb_sm (fun k => if F (1568 * x + k) then 1 else 0) (32 * 49) = _ := sm_mul _ 49 32
  rw [ct_sm (fun k => F (1568 * x + k)), show (1568 : Nat) = 32 * 49 from rfl, e, sm_swap]
  apply fb_sm_cong
  intro p hp
  rw [ct_sm]
  apply fb_sm_cong
  intro y hy
  rw [Bool.and_true, show laneR (49 * x + p) y = 32 * 49 * x + (y * 49 + p) by unfold laneR; omega]
theorem row_ct (F : Nat → Bool) {x y : Nat} (hy : y < 32) : fb_ct F (1568 * x + 49 * y) + fb_sm (fun k => fb_ct (fun j => F (laneR (49 * x + k) j) && decide (j = y)) 32) 49 = fb_ct F (1568 * x + 49 * y + 49) := by
  rw [fb_ct_split F (1568 * x + 49 * y) 49]
  congr 1
  rw [ct_sm]
  apply fb_sm_cong
  intro p hp
  rw [ct_single (fun j => F (laneR (49 * x + p) j)), show laneR (49 * x + p) y = 1568 * x + 49 * y + p by unfold laneR; omega]
  cases F (1568 * x + 49 * y + p) <;> simp [hy]
theorem e_b170 {N : Nat} {σ : qMem} {m : Int} {l y : Nat} (m0 : 0 ≤ m) (m1 : m ≤ 3) (hl : l < 1568) (hy : y < 32) : fX3_pick_b170 N (zI m) (zI 49) (zI y) (zI l) σ = some (zI (fld m (laneR l y))) := by
  obtain ⟨d1, d2, d3, d4, _⟩ := lane_dec hl hy
  unfold fX3_pick_b170 fld
  rw [d1, d2, d3, d4]
  have c0 : (zI m = 0) = (m = 0) := by rw [show (0 : Int32) = zI 0 from rfl, zI_eq (by omega) (by omega) (by omega) (by omega)]
  have c1 : (zI m = 1) = (m = 1) := by rw [show (1 : Int32) = zI 1 from rfl, zI_eq (by omega) (by omega) (by omega) (by omega)]
  have c2 : (zI m = 2) = (m = 2) := by rw [show (2 : Int32) = zI 2 from rfl, zI_eq (by omega) (by omega) (by omega) (by omega)]
  have k0 : (zI 49 = 0) = False := eq_false (by decide)
  have e1 : zI (l : Int) / zI 49 = zI ((l / 49 : Nat) : Int) := by rw [zI_divp (by omega) (by omega) (by omega) (by omega)]; rfl
  have e2 : irm (zI (l : Int) / 7) 7 - 3 = zI (((l / 7 % 7 : Nat) : Int) - 3) := by
    rw [show (7 : Int32) = zI 7 from rfl, show (3 : Int32) = zI 3 from rfl, zI_divp (by omega) (by omega) (by omega) (by omega), zI_rem (by omega) (by omega) (by omega) (by omega), zI_sub]; rfl
  have e3 : irm (zI (l : Int)) 7 - 3 = zI (((l % 7 : Nat) : Int) - 3) := by
    rw [show (7 : Int32) = zI 7 from rfl, show (3 : Int32) = zI 3 from rfl, zI_rem (by omega) (by omega) (by omega) (by omega), zI_sub]; rfl
  simp only [c0, c1, c2, k0, if_false, e1, e2, e3]
  split
  · rfl
  · split
    · rfl
    · split <;> rfl
theorem e_pick3 {N : Nat} {σ : qMem} {κ : Nat → Int32} {m : Int} {k R x y : Nat} (hN : 200000 ≤ N) (hp : plots σ.1 κ) (m0 : 0 ≤ m) (m1 : m ≤ 3) (hR : R < 50176) (hf : fitR κ R = true) (hk : fb_ct (fitR κ) R = k) (hx : x < 32) (hy : y < 32) (h1 : 1568 * x + 49 * y ≤ R) (h2 : R < 1568 * x + 49 * y + 49) :
    Ho (fX3_pick_b115 N (zI m) (zI 49) (zI ((k : Int) - fb_ct (fitR κ) (1568 * x + 49 * y))) (zI ((49 * x : Nat) : Int)) (zI y) σ) (fun r => r = zI (fld m R)) := by
  unfold fX3_pick_b115
  have kb : k ≤ 50176 := by rw [← hk]; exact Nat.le_trans (fb_ct_le _ _) (by omega)
  have hst := lp_for (S := Unit) (R := Int32) (fun n p _ => fX3_pick_l119 N σ n (zI m) (zI 49) (zI ((k : Int) - fb_ct (fitR κ) (1568 * x + 49 * y + p.toNat))) (zI ((49 * x : Nat) : Int)) (zI y) (zI (((49 * x + p.toNat : Nat)) : Int))) (fun p _ => 0 ≤ p ∧ 1568 * x + 49 * y + p.toNat ≤ R) (fun r => r = zI (fld m R)) 48 ?_ ?_ N 0 () (by omega) (by omega) ⟨by omega, h1⟩
  · exact hst
  · intro n _ ⟨_, hr⟩
    show Ho (fX3_pick_s119 N _ _ _ _ _ _ _ _) _
    unfold fX3_pick_s119
    have c : (zI ((49 * x : Nat) : Int) + zI 49 - 1 ≤ zI ((49 * x + (48 : Int).toNat : Nat) : Int)) = True := by
      rw [show (1 : Int32) = zI 1 from rfl, zI_add, zI_sub, zI_le (by omega) (by omega) (by omega) (by omega)]; exact eq_true (by omega)
    simp only [c, if_true]
    rw [e_b170 m0 m1 (by omega) hy]
    refine Ho_some ?_
    rw [show laneR (49 * x + (48 : Int).toNat) y = R by unfold laneR; omega]
  · intro n p _ hp2 ⟨p0, hr⟩ hc
    show Ho (fX3_pick_s119 N _ _ _ _ _ _ _ _) _
    unfold fX3_pick_s119
    have c : (zI ((49 * x : Nat) : Int) + zI 49 - 1 ≤ zI ((49 * x + p.toNat : Nat) : Int)) = False := by
      rw [show (1 : Int32) = zI 1 from rfl, zI_add, zI_sub, zI_le (by omega) (by omega) (by omega) (by omega)]; exact eq_false (by omega)
    have cc : (ck (zI ((49 * x + p.toNat : Nat) : Int)) 1568 = true) = True := zI_ckT (by omega) (by omega) (by omega)
    have z : (zI ((49 * x + p.toNat : Nat) : Int)).toNatClampNeg = 49 * x + p.toNat := by rw [zI_clamp (by omega) (by omega)]; rfl
    have gl : gi σ 61 (49 * x + p.toNat) = _ := hp.1 (49 * x + p.toNat) (by omega)
    have i1 : zI ((49 * x + p.toNat : Nat) : Int) + 1 = zI ((49 * x + (p + 1).toNat : Nat) : Int) := by
      rw [show (1 : Int32) = zI 1 from rfl, zI_add]; congr 1; omega
    have lr : laneR (49 * x + p.toNat) y = 1568 * x + 49 * y + p.toNat := by unfold laneR; omega
    have wb : ushr (wd (fun y => fitR κ (laneR (49 * x + p.toNat) y))) (zI (y : Int)) &&& 1 = zI (if fitR κ (1568 * x + 49 * y + p.toNat) then 1 else 0) := by
      rw [← bI_z]
      exact (wd_bit (fun y => fitR κ (laneR (49 * x + p.toNat) y)) hy).trans (by rw [lr])
    have ctle := fb_ct_le (fitR κ) (1568 * x + 49 * y + p.toNat)
    simp only [c, if_false, cc, if_true, z, gl, wb, nmI, i1, zI_sub]
    have cl : (zI ((k : Int) - fb_ct (fitR κ) (1568 * x + 49 * y + p.toNat)) < zI (if fitR κ (1568 * x + 49 * y + p.toNat) then 1 else 0)) = ((k : Int) - fb_ct (fitR κ) (1568 * x + 49 * y + p.toNat) < (if fitR κ (1568 * x + 49 * y + p.toNat) then 1 else 0)) := zI_lt (by omega) (by omega) (by split <;> omega) (by split <;> omega)
    simp only [cl]
    have nx := fb_ct_succ (fitR κ) (1568 * x + 49 * y + p.toNat)
    have kl := kth_le (t := 1568 * x + 49 * y + p.toNat + 1) hf hk
    have ne : ((if fitR κ (1568 * x + 49 * y + p.toNat) then 1 else 0 : Nat) : Int) = (if fitR κ (1568 * x + 49 * y + p.toNat) then 1 else 0 : Int) := by split <;> rfl
    by_cases q : (k : Int) - fb_ct (fitR κ) (1568 * x + 49 * y + p.toNat) < (if fitR κ (1568 * x + 49 * y + p.toNat) then 1 else 0)
    · rw [if_pos q, e_b170 m0 m1 (by omega) hy, lr]
      have : ¬ (1568 * x + 49 * y + p.toNat + 1 ≤ R) := fun h => by
        have := kl.mpr h
        rw [nx] at this
        rw [← ne] at q
        omega
      exact Ho_some (by rw [show 1568 * x + 49 * y + p.toNat = R by omega])
    · rw [if_neg q]
      have w : 1568 * x + 49 * y + (p + 1).toNat ≤ R := by
        rw [show 1568 * x + 49 * y + (p + 1).toNat = 1568 * x + 49 * y + p.toNat + 1 by omega]
        apply kl.mp
        rw [nx]
        rw [← ne] at q
        omega
      have e : (k : Int) - fb_ct (fitR κ) (1568 * x + 49 * y + p.toNat) - (if fitR κ (1568 * x + 49 * y + p.toNat) then 1 else 0) = (k : Int) - fb_ct (fitR κ) (1568 * x + 49 * y + (p + 1).toNat) := by
        rw [show 1568 * x + 49 * y + (p + 1).toNat = 1568 * x + 49 * y + p.toNat + 1 by omega, nx, ← ne]
        omega
      rw [e]
      exact hc () ⟨by omega, w⟩
theorem e_pick2 {N : Nat} {σ : qMem} {κ : Nat → Int32} {m : Int} {k R x : Nat} (hN : 200000 ≤ N) (hp : plots σ.1 κ) (m0 : 0 ≤ m) (m1 : m ≤ 3) (hR : R < 50176) (hf : fitR κ R = true) (hk : fb_ct (fitR κ) R = k) (hx : x < 32) (h1 : 1568 * x ≤ R) (h2 : R < 1568 * x + 1568) :
    Ho (fX3_pick_b62 N (zI m) (zI 49) (zI ((k : Int) - fb_ct (fitR κ) (1568 * x))) (zI ((49 * x : Nat) : Int)) σ) (fun r => r = zI (fld m R)) := by
  unfold fX3_pick_b62
  have cf : ∀ y, y < 32 → fX3_countFrom N (zI ((49 * x : Nat) : Int)) (zI 49) (wd (fun j => decide (j = y))) σ = some (zI ((fb_ct (fitR κ) (1568 * x + 49 * y + 49) : Nat) - fb_ct (fitR κ) (1568 * x + 49 * y) : Int)) := by
    intro y hy
    rw [e_countFrom (F := fun l y => fitR κ (laneR l y)) hN (by omega) (by omega) (by omega) (fun l a b => hp.1 l (by omega))]
    have := row_ct (fitR κ) (x := x) hy
    rw [show ((49 * x : Nat) : Int).toNat = 49 * x from rfl, show (49 : Int).toNat = 49 from rfl]
    congr 2
    omega
  have kb : k ≤ 50176 := by rw [← hk]; exact Nat.le_trans (fb_ct_le _ _) (by omega)
  have o1 : (1 : Int32) = wd (fun j => decide (j = 0)) := wd_ext (fun j _ => b_1 j)
  have c0 := cf 0 (by omega)
  rw [← o1] at c0
  rw [c0, Option.bind_some]
  have hst := lp_for (S := Unit) (R := Int32) (fun n y _ => fX3_pick_l75 N σ n (zI m) (zI 49) (zI ((k : Int) - fb_ct (fitR κ) (1568 * x + 49 * y.toNat))) (zI ((49 * x : Nat) : Int)) (zI ((fb_ct (fitR κ) (1568 * x + 49 * y.toNat + 49) : Nat) - fb_ct (fitR κ) (1568 * x + 49 * y.toNat) : Int)) (zI (y.toNat : Nat))) (fun y _ => 0 ≤ y ∧ 1568 * x + 49 * y.toNat ≤ R) (fun r => r = zI (fld m R)) 31 ?_ ?_ N 0 () (by omega) (by omega) ⟨by omega, by simpa using h1⟩
  · exact hst
  · intro n _ ⟨_, hr⟩
    show Ho (fX3_pick_s75 N _ _ _ _ _ _ _ _) _
    unfold fX3_pick_s75
    rw [if_pos (by decide)]
    exact e_pick3 (y := 31) hN hp m0 m1 hR hf hk hx (by omega) hr (by omega)
  · intro n y _ hy ⟨y0, hr⟩ hc
    show Ho (fX3_pick_s75 N _ _ _ _ _ _ _ _) _
    unfold fX3_pick_s75
    have c : (31 ≤ zI ((y.toNat : Nat) : Int)) = False := by rw [zl_31, zI_le (by omega) (by omega) (by omega) (by omega)]; exact eq_false (by omega)
    have le1 := fb_ct_le (fitR κ) (1568 * x + 49 * y.toNat)
    have le2 := fb_ct_le (fitR κ) (1568 * x + 49 * y.toNat + 49)
    have cl : (zI ((k : Int) - fb_ct (fitR κ) (1568 * x + 49 * y.toNat)) < zI ((fb_ct (fitR κ) (1568 * x + 49 * y.toNat + 49) : Nat) - fb_ct (fitR κ) (1568 * x + 49 * y.toNat) : Int)) = ((k : Int) < fb_ct (fitR κ) (1568 * x + 49 * y.toNat + 49)) := by
      rw [zI_lt (by omega) (by omega) (by omega) (by omega)]
      exact propext ⟨fun h => by omega, fun h => by omega⟩
    have i1 : zI ((y.toNat : Nat) : Int) + 1 = zI (((y + 1).toNat : Nat) : Int) := by
      rw [show (1 : Int32) = zI 1 from rfl, zI_add]; congr 1; omega
    have sh : (1 : Int32) <<< (zI (((y + 1).toNat : Nat) : Int) &&& 31) = wd (fun j => decide (j = (y + 1).toNat)) := wd_one (by omega)
    simp only [c, if_false, cl, i1, sh, cf (y + 1).toNat (by omega), Option.bind_some, zI_sub]
    have kl := kth_le (t := 1568 * x + 49 * y.toNat + 49) hf hk
    by_cases q : (k : Int) < fb_ct (fitR κ) (1568 * x + 49 * y.toNat + 49)
    · rw [if_pos q]
      exact e_pick3 hN hp m0 m1 hR hf hk hx (by omega) hr (by
        have : ¬ (1568 * x + 49 * y.toNat + 49 ≤ R) := fun h => by have := kl.mpr h; omega
        omega)
    · rw [if_neg q]
      have e1 : 1568 * x + 49 * (y + 1).toNat = 1568 * x + 49 * y.toNat + 49 := by omega
      have e : (k : Int) - fb_ct (fitR κ) (1568 * x + 49 * y.toNat) - ((fb_ct (fitR κ) (1568 * x + 49 * y.toNat + 49) : Nat) - fb_ct (fitR κ) (1568 * x + 49 * y.toNat) : Int) = (k : Int) - fb_ct (fitR κ) (1568 * x + 49 * (y + 1).toNat) := by
        rw [e1]; omega
      rw [e]
      exact hc () ⟨by omega, by rw [e1]; exact kl.mp (by omega)⟩
theorem e_pick {N : Nat} {σ : qMem} {κ : Nat → Int32} {m : Int} {k R : Nat} (hN : 200000 ≤ N) (hp : plots σ.1 κ) (m0 : 0 ≤ m) (m1 : m ≤ 3) (hR : R < 50176) (hf : fitR κ R = true) (hk : fb_ct (fitR κ) R = k) :
    Ho (fX3_pick N (zI k) (zI m) σ) (fun r => r = zI (fld m R)) := by
  unfold fX3_pick
  have cf : ∀ x, x < 32 → fX3_countFrom N (zI ((49 * x : Nat) : Int)) (zI 49) (-1) σ = some (zI ((fb_ct (fitR κ) (1568 * x + 1568) : Nat) - fb_ct (fitR κ) (1568 * x) : Int)) := by
    intro x hx
    rw [← wd_m1, e_countFrom (F := fun l y => fitR κ (laneR l y)) hN (by omega) (by omega) (by omega) (fun l a b => hp.1 l (by omega))]
    have := sheet_ct (fitR κ) x
    rw [show ((49 * x : Nat) : Int).toNat = 49 * x from rfl, show (49 : Int).toNat = 49 from rfl]
    congr 2
    omega
  have kb : k ≤ 50176 := by rw [← hk]; exact Nat.le_trans (fb_ct_le _ _) (by omega)
  have c0 : fX3_countFrom N 0 49 (-1) σ = _ := cf 0 (by omega)
  rw [c0, Option.bind_some]
  have hst := lp_for (S := Unit) (R := Int32) (fun n x _ => fX3_pick_l19 N σ n (zI m) (zI 49) (zI ((k : Int) - fb_ct (fitR κ) (1568 * x.toNat))) (zI ((49 * x.toNat : Nat) : Int)) (zI ((fb_ct (fitR κ) (1568 * x.toNat + 1568) : Nat) - fb_ct (fitR κ) (1568 * x.toNat) : Int))) (fun x _ => 0 ≤ x ∧ 1568 * x.toNat ≤ R) (fun r => r = zI (fld m R)) 31 ?_ ?_ N 0 () (by omega) (by omega) ⟨by omega, by simp⟩
  · have : zI ((k : Int) - fb_ct (fitR κ) (1568 * (0 : Int).toNat)) = zI k := congrArg zI (Int.sub_zero _)
    simp only [this] at hst
    exact hst
  · intro n _ ⟨_, hr⟩
    show Ho (fX3_pick_s19 N _ _ _ _ _ _ _) _
    unfold fX3_pick_s19
    rw [if_pos (by decide)]
    exact e_pick2 (x := 31) hN hp m0 m1 hR hf hk (by omega) hr (by omega)
  · intro n x _ hx ⟨x0, hr⟩ hc
    show Ho (fX3_pick_s19 N _ _ _ _ _ _ _) _
    unfold fX3_pick_s19
    have i1 : zI ((49 * x.toNat : Nat) : Int) + zI 49 = zI ((49 * (x + 1).toNat : Nat) : Int) := by
      rw [zI_add]; congr 1; omega
    have c : (1568 ≤ zI ((49 * (x + 1).toNat : Nat) : Int)) = False := by rw [zl_1568, zI_le (by omega) (by omega) (by omega) (by omega)]; exact eq_false (by omega)
    have le1 := fb_ct_le (fitR κ) (1568 * x.toNat)
    have le2 := fb_ct_le (fitR κ) (1568 * x.toNat + 1568)
    have cl : (zI ((k : Int) - fb_ct (fitR κ) (1568 * x.toNat)) < zI ((fb_ct (fitR κ) (1568 * x.toNat + 1568) : Nat) - fb_ct (fitR κ) (1568 * x.toNat) : Int)) = ((k : Int) < fb_ct (fitR κ) (1568 * x.toNat + 1568)) := by
      rw [zI_lt (by omega) (by omega) (by omega) (by omega)]
      exact propext ⟨fun h => by omega, fun h => by omega⟩
    simp only [i1, c, if_false, cl, cf (x + 1).toNat (by omega), Option.bind_some, zI_sub]
    have kl := kth_le (t := 1568 * x.toNat + 1568) hf hk
    by_cases q : (k : Int) < fb_ct (fitR κ) (1568 * x.toNat + 1568)
    · rw [if_pos q]
      exact e_pick2 hN hp m0 m1 hR hf hk (by omega) hr (by
        have : ¬ (1568 * x.toNat + 1568 ≤ R) := fun h => by have := kl.mpr h; omega
        omega)
    · rw [if_neg q]
      have e1 : 1568 * (x + 1).toNat = 1568 * x.toNat + 1568 := by omega
      have e : (k : Int) - fb_ct (fitR κ) (1568 * x.toNat) - ((fb_ct (fitR κ) (1568 * x.toNat + 1568) : Nat) - fb_ct (fitR κ) (1568 * x.toNat) : Int) = (k : Int) - fb_ct (fitR κ) (1568 * (x + 1).toNat) := by
        rw [e1]; omega
      rw [e]
      exact hc () ⟨by omega, by rw [e1]; exact kl.mp (by omega)⟩
theorem r_fld {τ : qMem} {m : Int} {R : Nat} (m0 : 0 ≤ m) (m1 : m ≤ 3) (hR : R < 50176) : (if zI m = 0 then ((fX12_eastOf (zI R)).bind fun y7 => (some (y7, τ))) else (if zI m = 1 then ((fX12_northOf (zI R)).bind fun y6 => (some (y6, τ))) else (if zI m = 2 then ((fX12_eastBy (zI R)).bind fun y5 => (some (y5, τ))) else ((fX12_northBy (zI R)).bind fun y4 => (some (y4, τ)))))) = some (zI (fld m R), τ) := by
  obtain ⟨e1, e2, e3, e4⟩ := r_code (r := R) (by omega) (by omega)
  have c0 : (zI m = 0) = (m = 0) := by rw [show (0 : Int32) = zI 0 from rfl, zI_eq (by omega) (by omega) (by omega) (by omega)]
  have c1 : (zI m = 1) = (m = 1) := by rw [show (1 : Int32) = zI 1 from rfl, zI_eq (by omega) (by omega) (by omega) (by omega)]
  have c2 : (zI m = 2) = (m = 2) := by rw [show (2 : Int32) = zI 2 from rfl, zI_eq (by omega) (by omega) (by omega) (by omega)]
  unfold fld
  simp only [c0, c1, c2, e1, e2, e3, e4, Option.bind_some]
  split
  · rfl
  · split
    · rfl
    · split <;> rfl
theorem r_runL {N : Nat} {τ : qMem} {κ : Nat → Int32} {m : Int} {k R : Nat} (hN : 200000 ≤ N) (hfo : fitsOK τ.1 κ) (m0 : 0 ≤ m) (m1 : m ≤ 3) (hR : R < 50176) (hf : fitR κ R = true) (hk : fb_ct (fitR κ) R = k) :
    Ho (fX12_run_l36 N N (zI k) (zI m) 0 0 τ) (fun a => a = (zI (fld m R), τ)) := by
  have kb : k ≤ 50176 := by rw [← hk]; exact Nat.le_trans (fb_ct_le _ _) (by omega)
  have main : ∀ n i : Int, 0 ≤ i → i ≤ R → (ck (zI i) 50176 = true) = True ∧ (zI i).toNatClampNeg = i.toNat ∧ gi τ 7 i.toNat = bI (fitR κ i.toNat) ∧ (zI k ≤ zI (fb_ct (fitR κ) i.toNat)) = (k ≤ fb_ct (fitR κ) i.toNat) ∧ zI i + 1 = zI (i + 1) := by
    intro _ i h0 h1
    have := fb_ct_le (fitR κ) i.toNat
    refine ⟨zI_ckT (by omega) (by omega) (by omega), zI_clamp (by omega) (by omega), hfo.1 _ (by omega), ?_, zI_add i 1⟩
    rw [zI_le (by omega) (by omega) (by omega) (by omega)]
    exact propext ⟨fun h => by omega, fun h => by omega⟩
  have hst := lp_for (S := Unit) (R := Int32 × qMem) (fun n i _ => fX12_run_l36 N n (zI k) (zI m) (zI i) (zI (fb_ct (fitR κ) i.toNat)) τ) (fun i _ => 0 ≤ i ∧ i ≤ R) (fun a => a = (zI (fld m R), τ)) R ?_ ?_ N 0 () (by omega) (by omega) ⟨by omega, by omega⟩
  · exact hst
  · intro n _ ⟨i0, _⟩
    show Ho (fX12_run_s36 N _ _ _ _ _ _) _
    unfold fX12_run_s36
    obtain ⟨d1, d2, d3, d4, d5⟩ := main n R i0 (by omega)
    have t : (k ≤ fb_ct (fitR κ) R) = True := eq_true (by omega)
    simp only [d1, if_true, d2, d3, if_bI, d4, r_fld m0 m1 hR]
    rw [show ((R : Nat) : Int).toNat = R from rfl]
    simp only [hf, if_true, t]
    exact Ho_some rfl
  · intro n i _ hi ⟨i0, _⟩ hc
    show Ho (fX12_run_s36 N _ _ _ _ _ _) _
    unfold fX12_run_s36 fX12_run_b51 fX12_run_b67
    obtain ⟨d1, d2, d3, d4, d5⟩ := main n i i0 (by omega)
    simp only [d1, if_true, d2, d3, if_bI, d4, d5]
    have nx := fb_ct_succ (fitR κ) i.toNat
    have s0 : zI (fb_ct (fitR κ) i.toNat) + 0 = zI (fb_ct (fitR κ) i.toNat) := by rw [show (0 : Int32) = zI 0 from rfl, zI_add, Int.add_zero]
    have s1 : zI (fb_ct (fitR κ) i.toNat) + 1 = zI ((fb_ct (fitR κ) i.toNat : Int) + 1) := zI_add _ 1
    by_cases q : fitR κ i.toNat = true
    · rw [q, if_pos rfl] at nx
      have lt : ¬ k ≤ fb_ct (fitR κ) i.toNat := by
        have := (kth_le (t := i.toNat + 1) hf hk).mpr (by omega)
        omega
      rw [if_pos q, if_neg lt, if_pos q, s1]
      have := hc () ⟨by omega, by omega⟩
      rw [show (i + 1).toNat = i.toNat + 1 by omega, nx] at this
      exact this
    · rw [if_neg q, if_neg q, s0]
      rw [if_neg q] at nx
      have := hc () ⟨by omega, by omega⟩
      rw [show (i + 1).toNat = i.toNat + 1 by omega, nx] at this
      exact this
theorem b_run {LW : LWt} {c N : Nat} {σ τ : qMem} (hN : 200000 ≤ N) (hLW : LWc LW) (h : Inv LW c σ τ) (p1 p2 : Int32) : Both LW c (fX11_run N p1 p2 σ) (fX12_run N p1 p2 τ) := by
  obtain ⟨a1, l1, u1, rfl⟩ := zI_ex p1
  obtain ⟨a2, l2, u2, rfl⟩ := zI_ex p2
  have i2 : fX11_isIn (zI a2) 0 3 = some (bI (decide (0 ≤ a2 ∧ a2 ≤ 3))) := e_isIn (b := 0) (c := 3) l2 u2 (by omega) (by omega) (by omega) (by omega)
  have j2 : fX12_in (zI a2) 0 3 = some (bI (decide (0 ≤ a2 ∧ a2 ≤ 3))) := e_in (b := 0) (c := 3) l2 u2 (by omega) (by omega) (by omega) (by omega)
  have le := fit_le (τ.1 2)
  have n0 : (zI a1 < 0) = (a1 < 0) := by rw [show (0 : Int32) = zI 0 from rfl, zI_lt (by omega) (by omega) (by omega) (by omega)]
  have bad : ¬ ((0 ≤ a1 ∧ a1 ≤ (fb_ct (fitR (τ.1 2)) 50176 : Int) - 1) ∧ 0 ≤ a2 ∧ a2 ≤ 3) → Ho (fX12_run N (zI a1) (zI a2) τ) (fun a => a.1 = -1000 ∧ SM τ a.2 ∧ RC a.2.1 (τ.1 2)) := by
    intro q
    unfold fX12_run
    refine Ho_bind (r_fits hN rfl (Inv_KW h) (Inv_RC h) (Inv_v h)) fun t ⟨w1, w2, w3⟩ => ?_
    have g : gi t 0 12 = zI (fb_ct (fitR (τ.1 2)) 50176) := w3.2
    have j1 : fX12_in (zI a1) 0 (zI (fb_ct (fitR (τ.1 2)) 50176) - 1) = some (bI (decide (0 ≤ a1 ∧ a1 ≤ (fb_ct (fitR (τ.1 2)) 50176 : Int) - 1))) := by
      rw [show (1 : Int32) = zI 1 from rfl, zI_sub, show (0 : Int32) = zI 0 from rfl]
      exact e_in l1 u1 (by omega) (by omega) (by omega) (by omega)
    simp only [g, j1, j2, Option.bind_some, if_bI, decide_eq_true_eq]
    by_cases q1 : 0 ≤ a1 ∧ a1 ≤ (fb_ct (fitR (τ.1 2)) 50176 : Int) - 1
    · rw [if_pos q1, if_neg (fun h => q ⟨q1, h⟩)]
      exact Ho_some ⟨rfl, w1, w2⟩
    · rw [if_neg q1]
      exact Ho_some ⟨rfl, w1, w2⟩
  by_cases q0 : a1 < 0
  · refine both_q (v := -1000) hLW h ?_ (bad (by omega))
    unfold fX11_run
    simp only [n0]
    rw [if_pos q0]
    exact Ho_some ⟨rfl, SC_refl _, (Inv_CI h).2.2.2⟩
  · by_cases q2 : 0 ≤ a2 ∧ a2 ≤ 3
    · have cls : ∀ v : Int32, (∀ s : qMem, plots s.1 (τ.1 2) → Ho (if (fb_ct (fitR (τ.1 2)) 50176 : Int) ≤ a1 then (some ((-1000), s)) else ((fX3_pick N (zI a1) (zI a2) s).bind fun y3 => (some (y3, s)))) (fun a => a = (v, s))) → Ho (fX11_run N (zI a1) (zI a2) σ) (fun a => a.1 = v ∧ SC σ a.2 ∧ CC a.2.1 (τ.1 2)) := by
        intro v hv
        unfold fX11_run
        simp only [n0, i2, Option.bind_some, if_bI, decide_eq_true_eq]
        rw [if_neg q0, if_pos q2]
        refine Ho_bind (e_plot hN (Inv_CI h)) fun s ⟨w1, w2, w3, _⟩ => ?_
        have g : gi s 44 14 = zI (fb_ct (fitR (τ.1 2)) 50176) := w3.2
        have cl : (zI (fb_ct (fitR (τ.1 2)) 50176) ≤ zI a1) = ((fb_ct (fitR (τ.1 2)) 50176 : Int) ≤ a1) := zI_le (by omega) (by omega) (by omega) (by omega)
        simp only [g, cl]
        refine Ho_mono (hv s w3) fun a ha => ?_
        rw [ha]
        exact ⟨rfl, w2, w1.2.2.2⟩
      by_cases q1 : (fb_ct (fitR (τ.1 2)) 50176 : Int) ≤ a1
      · refine both_q (v := -1000) hLW h (cls _ fun s _ => ?_) (bad (by omega))
        rw [if_pos q1]
        exact Ho_some rfl
      · obtain ⟨R, r1, r2, r3⟩ := fb_ct_kth (p := fitR (τ.1 2)) (k := a1.toNat) (n := 50176) (by omega)
        have ea : a1 = ((a1.toNat : Nat) : Int) := by omega
        refine both_q (v := zI (fld a2 R)) hLW h (cls _ fun s hs => ?_) ?_
        · rw [if_neg q1, ea]
          refine Ho_bind (e_pick hN hs q2.1 q2.2 r1 r2 r3) fun y hy => ?_
          rw [hy]
          exact Ho_some rfl
        · unfold fX12_run
          refine Ho_bind (r_fits hN rfl (Inv_KW h) (Inv_RC h) (Inv_v h)) fun t ⟨w1, w2, w3⟩ => ?_
          have g : gi t 0 12 = zI (fb_ct (fitR (τ.1 2)) 50176) := w3.2
          have j1 : fX12_in (zI a1) 0 (zI (fb_ct (fitR (τ.1 2)) 50176) - 1) = some (bI (decide (0 ≤ a1 ∧ a1 ≤ (fb_ct (fitR (τ.1 2)) 50176 : Int) - 1))) := by
            rw [show (1 : Int32) = zI 1 from rfl, zI_sub, show (0 : Int32) = zI 0 from rfl]
            exact e_in l1 u1 (by omega) (by omega) (by omega) (by omega)
          simp only [g, j1, j2, Option.bind_some, if_bI, decide_eq_true_eq]
          rw [if_pos (by omega), if_pos q2, ea]
          refine Ho_mono (r_runL hN w3 q2.1 q2.2 r1 r2 r3) fun a ha => ?_
          rw [ha]
          exact ⟨rfl, w1, w2⟩
    · refine both_q (v := -1000) hLW h ?_ (bad (fun h => q2 h.2))
      unfold fX11_run
      simp only [n0, i2, Option.bind_some, if_bI, decide_eq_true_eq]
      rw [if_neg q0, if_neg q2]
      exact Ho_some ⟨rfl, SC_refl _, (Inv_CI h).2.2.2⟩
