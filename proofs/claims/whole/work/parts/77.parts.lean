/-! parts: the largest group -/
def mxN (f : Nat → Nat) : Nat → Nat
  | 0 => 0
  | n + 1 => max (mxN f n) (f n)
theorem mxN_cong {f g : Nat → Nat} : ∀ n, (∀ i, i < n → f i = g i) → mxN f n = mxN g n
  | 0, _ => rfl
  | n + 1, h => by rw [mxN, mxN, mxN_cong n (fun i hi => h i (by omega)), h n (by omega)]
theorem mxN_ge {f : Nat → Nat} : ∀ n i, i < n → f i ≤ mxN f n
  | 0, _, h => by omega
  | n + 1, i, h => by
    rw [mxN]
    by_cases q : i = n
    · rw [q]; omega
    · have := mxN_ge (f := f) n i (by omega); omega
theorem mxN_upd {f g : Nat → Nat} {k : Nat} : ∀ n, k < n → (∀ i, i < n → i ≠ k → g i = f i) → f k ≤ g k → mxN g n = max (mxN f n) (g k)
  | 0, h, _, _ => by omega
  | n + 1, h, he, hk => by
    rw [mxN, mxN]
    by_cases q : k = n
    · subst q
      rw [mxN_cong k (fun i hi => he i (by omega) (by omega))]
      omega
    · rw [mxN_upd n (by omega) (fun i hi => he i (by omega)) hk, he n (by omega) (by omega)]
      omega
theorem mxN_le {f : Nat → Nat} {b : Nat} : ∀ n, (∀ i, i < n → f i ≤ b) → mxN f n ≤ b
  | 0, _ => Nat.zero_le _
  | n + 1, h => by
    have := mxN_le (f := f) (b := b) n (fun i hi => h i (by omega))
    have := h n (by omega)
    rw [mxN]
    omega
def grpS (x y : Int) : Nat := if x = 0 ∧ y = 0 then 80 else (roseS x y).toNat
def grpR (L X Y : Int) (r : Nat) : Nat := grpS (rX r L - X) (rY r L - Y)
theorem grpS_lt (x y : Int) : grpS x y < 81 := by
  unfold grpS
  split
  · omega
  · rename_i q
    have := rose_rng x y (by omega)
    omega
noncomputable def grpB (κ : Nat → Int32) (L X Y : Int) (g r : Nat) : Bool := fitR κ r && decide (grpR L X Y r = g)
noncomputable def partN (κ : Nat → Int32) (L X Y : Int) : Nat := mxN (fun g => fb_ct (grpB κ L X Y g) 50176) 81
theorem e_groupOf {x y : Int} (h1 : -1000 ≤ x) (h2 : x ≤ 1000) (h3 : -1000 ≤ y) (h4 : y ≤ 1000) {α : Type} (f : Int32 → Option α) : ((fX11_direction (zI x) (zI y)).bind fun y1 => (if y1 = (-1) then f 80 else f y1)) = f (zI (grpS x y)) := by
  rw [e_dir (by omega) (by omega) (by omega) (by omega), Option.bind_some]
  unfold grpS
  by_cases q : x = 0 ∧ y = 0
  · rw [if_pos q, q.1, q.2]
    rfl
  · have rr := rose_rng x y (by omega)
    have e : dirS x y = roseS x y := by
      unfold dirS
      rw [if_neg q]
    rw [if_neg q, e, if_neg (by rw [show (-1 : Int32) = zI (-1) from rfl, zI_eq (by omega) (by omega) (by omega) (by omega)]; omega)]
    congr 2
    omega
theorem e_groupLane {N : Nat} {σ : qMem} {w : Nat → Bool} {x y : Int} {c : Nat → Nat} (hN : 200000 ≤ N) (x0 : -900 ≤ x) (x1 : x ≤ 900) (y0 : -900 ≤ y) (y1 : y ≤ 900) (hc0 : ∀ g, g < 81 → gi σ 66 g = zI (c g)) :
    Ho (fX3_groupLane N (wd w) (zI x) (zI y) σ) (fun t => (∀ g, g < 81 → gi t 66 g = zI ((c g + fb_ct (fun j => w j && decide (grpS x (y + j) = g)) 32 : Nat) : Int)) ∧ ∀ k j, k ≠ 66 → gi t k j = gi σ k j) := by
  unfold fX3_groupLane
  rw [show (0 : Int32) = zI 0 from rfl]
  refine lp_for (S := qMem) (R := qMem) (fun n i s => fX3_groupLane_l3 N n (wd w) (zI x) (zI y) (zI i) s) (fun i s => 0 ≤ i ∧ (∀ g, g < 81 → gi s 66 g = zI ((c g + fb_ct (fun j => w j && decide (grpS x (y + j) = g)) i.toNat : Nat) : Int)) ∧ ∀ k j, k ≠ 66 → gi s k j = gi σ k j) _ 32 ?_ ?_ N 0 σ (by omega) (by omega) ⟨by omega, fun g hg => hc0 g hg, fun _ _ _ => rfl⟩
  · intro n s ⟨_, h1, h2⟩
    show Ho (fX3_groupLane_s3 N _ _ _ _ _ _) _
    unfold fX3_groupLane_s3
    rw [if_pos (by decide)]
    exact Ho_some ⟨h1, h2⟩
  · intro n i s hi ⟨i0, h1, h2⟩ hc
    show Ho (fX3_groupLane_s3 N _ _ _ _ _ _) _
    unfold fX3_groupLane_s3
    have c32 : (32 ≤ zI i) = False := by rw [zl_32, zI_le (by omega) (by omega) (by omega) (by omega)]; exact eq_false (by omega)
    have i1 : zI i + 1 = zI (i + 1) := zI_add i 1
    have wb : ushr (wd w) (zI i) &&& 1 = bI (w i.toNat) := by
      rw [show zI i = nI i.toNat by rw [nI_zI]; congr 1; omega]
      exact wd_bit w (by omega)
    simp only [c32, if_false, wb, if_bI, zI_add]
    rw [e_groupOf (by omega) (by omega) (by omega) (by omega) (fun u => fX3_groupLane_b46 N (fX3_groupLane_l3 N n) (wd w) (zI x) (zI y) (zI i) u s)]
    unfold fX3_groupLane_b46 fX3_groupLane_b51
    rw [i1]
    have hg := grpS_lt x (y + i)
    have ei : ((i.toNat : Nat) : Int) = i := by omega
    by_cases q : w i.toNat = true
    · rw [if_pos q]
      have cc : (ck (zI ((grpS x (y + i) : Nat) : Int)) 81 = true) = True := zI_ckT (by omega) (by omega) (by omega)
      have z : (zI ((grpS x (y + i) : Nat) : Int)).toNatClampNeg = grpS x (y + i) := by rw [zI_clamp (by omega) (by omega)]; rfl
      simp only [cc, if_true, z, nmM, h1 _ hg]
      refine hc _ ⟨by omega, fun g hgg => ?_, fun k j hk => by rw [gi_si, if_neg (by omega)]; exact h2 k j hk⟩
      rw [gi_si, show (i + 1).toNat = i.toNat + 1 by omega, fb_ct_succ, ei]
      by_cases e : g = grpS x (y + i)
      · rw [if_pos ⟨rfl, e⟩, e, q, decide_eq_true rfl, Bool.true_and, if_pos (c := true = true) rfl, show (1 : Int32) = zI 1 from rfl, zI_add]
        congr 1
      · rw [if_neg (by omega), h1 g hgg, q, decide_eq_false (by omega), Bool.and_false, if_neg (c := false = true) (by decide)]
        rfl
    · rw [if_neg q]
      rw [Bool.not_eq_true] at q
      refine hc s ⟨by omega, fun g hgg => ?_, h2⟩
      rw [show (i + 1).toNat = i.toNat + 1 by omega, fb_ct_succ, q, Bool.false_and, if_neg (c := false = true) (by decide)]
      exact h1 g hgg
theorem e_largestGroup {N : Nat} {σ : qMem} {κ : Nat → Int32} {L X Y : Int} (hN : 200000 ≤ N) (hp : plots σ.1 κ) (l0 : 0 ≤ L) (l1 : L ≤ 23) (x0 : -500 ≤ X) (x1 : X ≤ 500) (y0 : -500 ≤ Y) (y1 : Y ≤ 500) :
    Ho (fX3_largestGroup N (zI L) (zI X) (zI Y) σ) (fun a => a.1 = zI (partN κ L X Y) ∧ ∀ k j, k ≠ 66 → gi a.2 k j = gi σ k j) := by
  unfold fX3_largestGroup
  refine Ho_bind (e_fill hN (by omega)) fun σ1 g1 => ?_
  rw [show (0 : Int32) = zI 0 from rfl]
  refine lp_for (S := qMem) (R := Int32 × qMem) (fun n i s => fX3_largestGroup_l11 N n (zI L) (zI X) (zI Y) (zI i) s) (fun i s => 0 ≤ i ∧ (∀ g, g < 81 → gi s 66 g = zI ((fb_sm (fun l => fb_ct (fun y => grpB κ L X Y g (laneR l y)) 32) i.toNat : Nat) : Int)) ∧ ∀ k j, k ≠ 66 → gi s k j = gi σ k j) _ 1568 ?_ ?_ N 0 σ1 (by omega) (by omega) ⟨by omega, fun g hg => by rw [g1, if_pos ⟨rfl, hg⟩]; rfl, fun k j hk => by rw [g1, if_neg (by omega)]⟩
  · intro n s ⟨_, h1, h2⟩
    show Ho (fX3_largestGroup_s11 N _ _ _ _ _ _) _
    unfold fX3_largestGroup_s11
    rw [if_pos (by decide), show (0 : Int32) = zI 0 from rfl]
    have hcn : ∀ g, g < 81 → gi s 66 g = zI ((fb_ct (grpB κ L X Y g) 50176 : Nat) : Int) := fun g hg => (h1 g hg).trans (congrArg (fun n : Nat => zI n) (lanes_ct (grpB κ L X Y g)))
    have hb : ∀ g, fb_ct (grpB κ L X Y g) 50176 ≤ 50176 := fun g => fb_ct_le _ _
    have hst := lp_for (S := Unit) (R := Int32 × qMem) (fun n i _ => fX3_largestGroup_l68 N n (zI ((mxN (fun g => fb_ct (grpB κ L X Y g) 50176) i.toNat : Nat) : Int)) (zI i) s) (fun i _ => 0 ≤ i) (fun a => a.1 = zI (partN κ L X Y) ∧ ∀ k j, k ≠ 66 → gi a.2 k j = gi σ k j) 81 ?_ ?_ N 0 () (by omega) (by omega) (by omega)
    · exact hst
    · intro n _ _
      show Ho (fX3_largestGroup_s68 N _ _ _ _) _
      unfold fX3_largestGroup_s68
      rw [if_pos (by decide)]
      exact Ho_some ⟨rfl, h2⟩
    · intro n i _ hi i0 hc
      show Ho (fX3_largestGroup_s68 N _ _ _ _) _
      unfold fX3_largestGroup_s68
      have c : (81 ≤ zI i) = False := by rw [zl_81, zI_le (by omega) (by omega) (by omega) (by omega)]; exact eq_false (by omega)
      have cc : (ck (zI i) 81 = true) = True := zI_ckT (by omega) (by omega) (by omega)
      have z : (zI i).toNatClampNeg = i.toNat := zI_clamp (by omega) (by omega)
      have i1 : zI i + 1 = zI (i + 1) := zI_add i 1
      have mb := mxN_le (f := fun g => fb_ct (grpB κ L X Y g) 50176) (b := 50176) i.toNat (fun g _ => hb g)
      have fb := hb i.toNat
      simp only [c, if_false, cc, if_true, z, i1, hcn i.toNat (by omega)]
      rw [e_max (by omega) (by omega) (by omega) (by omega), Option.bind_some]
      have := hc () (by omega)
      rw [show (i + 1).toNat = i.toNat + 1 by omega, mxN] at this
      have em : max ((mxN (fun g => fb_ct (grpB κ L X Y g) 50176) i.toNat : Nat) : Int) ((fb_ct (grpB κ L X Y i.toNat) 50176 : Nat) : Int) = ((max (mxN (fun g => fb_ct (grpB κ L X Y g) 50176) i.toNat) (fb_ct (grpB κ L X Y i.toNat) 50176) : Nat) : Int) := by omega
      rw [em]
      exact this
  · intro n i s hi ⟨i0, h1, h2⟩ hc
    show Ho (fX3_largestGroup_s11 N _ _ _ _ _ _) _
    unfold fX3_largestGroup_s11 fX3_largestGroup_b56
    have c : (1568 ≤ zI i) = False := by rw [zl_1568, zI_le (by omega) (by omega) (by omega) (by omega)]; exact eq_false (by omega)
    have cc : (ck (zI i) 1568 = true) = True := zI_ckT (by omega) (by omega) (by omega)
    have z : (zI i).toNatClampNeg = i.toNat := zI_clamp (by omega) (by omega)
    have i1 : zI i + 1 = zI (i + 1) := zI_add i 1
    have gl : gi s 61 i.toNat = _ := (h2 61 _ (by omega)).trans (hp.1 i.toNat (by omega))
    have ub := mulb (u := i / 7 % 7 - 3) (bell := L) (by omega) (by omega) l0 l1
    have vb := mulb (u := i % 7 - 3) (bell := L) (by omega) (by omega) l0 l1
    simp only [c, if_false, cc, if_true, z, gl, e_eastOf i0 hi, e_lowOf i0 hi, Option.bind_some, wd_eq0, i1, zI_sub]
    have lx : ∀ g j : Nat, j < 32 → grpB κ L X Y g (laneR i.toNat j) = (fitR κ (laneR i.toNat j) && decide (grpS (i / 49 + (i / 7 % 7 - 3) * L - X) ((i % 7 - 3) * L - Y + j) = g)) := by
      intro g j hj
      have := rX_lane (lane := i.toNat) (y := j) (bell := L) (by omega) hj
      rw [show ((i.toNat : Nat) : Int) = i by omega] at this
      unfold grpB grpR
      rw [this.1, this.2, show (i % 7 - 3) * L + (j : Int) - Y = (i % 7 - 3) * L - Y + j by omega]
    by_cases q : ∀ j : Nat, j < 32 → fitR κ (laneR i.toNat j) = false
    · rw [if_pos q]
      refine hc s ⟨by omega, fun g hg => ?_, h2⟩
      rw [h1 g hg, show (i + 1).toNat = i.toNat + 1 by omega, fb_sm_succ]
      have : fb_ct (fun y => grpB κ L X Y g (laneR i.toNat y)) 32 = 0 := fb_ct_zero.mpr fun j hj => by unfold grpB; rw [q j hj]; rfl
      rw [this]; rfl
    · rw [if_neg q]
      refine Ho_bind (e_groupLane hN (by omega) (by omega) (by omega) (by omega) h1) fun t ⟨w1, w2⟩ => ?_
      refine hc t ⟨by omega, fun g hg => ?_, fun k j hk => (w2 k j hk).trans (h2 k j hk)⟩
      rw [w1 g hg, show (i + 1).toNat = i.toNat + 1 by omega, fb_sm_succ]
      have : fb_ct (fun j => fitR κ (laneR i.toNat j) && decide (grpS (i / 49 + (i / 7 % 7 - 3) * L - X) ((i % 7 - 3) * L - Y + j) = g)) 32 = fb_ct (fun y => grpB κ L X Y g (laneR i.toNat y)) 32 := fb_ct_cong fun j hj => (lx g j hj).symm
      rw [this]
