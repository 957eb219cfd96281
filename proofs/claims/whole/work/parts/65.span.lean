/-! span and alone -/
theorem neg_bt (w : Int32) {i : Nat} (hi : i < 32) : bt (-w) i = (bt w i ^^ decide (∃ k, k < i ∧ bt w k = true)) := by
  unfold bt
  rw [Int32.toBitVec_neg, BitVec.getLsbD_neg, decide_eq_true hi, Bool.true_and]
theorem low_tab : ∀ j, j < 32 → wd (fun i => decide (i = j)) - 1 = wd (fun i => decide (i < j)) ∧ fb_ct (fun i => decide (i < j)) 32 = j ∧ fb_ct (fun i => decide (i ≤ j)) 32 = j + 1 := by decide +kernel
theorem e_lowest {f : Nat → Bool} {j : Nat} (hj : j < 32) (hf : f j = true) (hn : ∀ i, i < j → f i = false) : fX3_lowestBit (wd f) = some (zI j) := by
  unfold fX3_lowestBit
  have e : wd f &&& (-(wd f)) = wd (fun i => decide (i = j)) := by
    apply wd_ext
    intro i hi
    rw [b_and, neg_bt _ hi, bt_wd f hi]
    by_cases q : i = j
    · subst q
      have : ¬ ∃ k, k < i ∧ bt (wd f) k = true := by
        rintro ⟨k, h1, h2⟩
        rw [bt_wd f (by omega), hn k h1] at h2
        exact Bool.noConfusion h2
      rw [hf, decide_eq_false this, decide_eq_true rfl]; rfl
    · rw [decide_eq_false q]
      rcases Nat.lt_or_ge i j with h | h
      · rw [hn i h]; rfl
      · have : ∃ k, k < i ∧ bt (wd f) k = true := ⟨j, by omega, by rw [bt_wd f hj]; exact hf⟩
        rw [decide_eq_true this]
        cases f i <;> rfl
  obtain ⟨t1, t2, _⟩ := low_tab j hj
  rw [e, t1, e_bitCount, t2]; rfl
theorem low_ex {f : Nat → Bool} (h : ∃ j, j < 32 ∧ f j = true) : ∃ j, j < 32 ∧ f j = true ∧ ∀ i, i < j → f i = false := by
  have : ∀ n, (∃ j, j < n ∧ f j = true) → ∃ j, j < n ∧ f j = true ∧ ∀ i, i < j → f i = false := by
    intro n
    induction n with
    | zero => rintro ⟨j, h, _⟩; omega
    | succ n ih =>
      rintro ⟨j, h1, h2⟩
      by_cases q : ∃ j, j < n ∧ f j = true
      · obtain ⟨k, a, b, c⟩ := ih q
        exact ⟨k, by omega, b, c⟩
      · refine ⟨j, h1, h2, fun i hi => ?_⟩
        cases e : f i
        · rfl
        · exact absurd ⟨i, by omega, e⟩ q
  exact this 32 h
theorem high_ex {f : Nat → Bool} (h : ∃ j, j < 32 ∧ f j = true) : ∃ j, j < 32 ∧ f j = true ∧ ∀ i, j < i → i < 32 → f i = false := by
  have : ∀ n, (∃ j, j < n ∧ f j = true) → ∃ j, j < n ∧ f j = true ∧ ∀ i, j < i → i < n → f i = false := by
    intro n
    induction n with
    | zero => rintro ⟨j, h, _⟩; omega
    | succ n ih =>
      rintro ⟨j, h1, h2⟩
      by_cases q : f n = true
      · exact ⟨n, by omega, q, fun i a b => by omega⟩
      · rw [Bool.not_eq_true] at q
        have : j ≠ n := fun e => by rw [e, q] at h2; exact Bool.noConfusion h2
        obtain ⟨k, a, b, c⟩ := ih ⟨j, by omega, h2⟩
        refine ⟨k, by omega, b, fun i hi hi2 => ?_⟩
        by_cases e : i = n
        · rw [e, q]
        · exact c i hi (by omega)
  exact this 32 h
def hbS (g : Nat → Bool) (s : Nat) : Nat → Bool := fun i => g i || (decide (s + i < 32) && g (s + i))
theorem hb_step (N n : Nat) {s : Nat} (g : Nat → Bool) (hs : 0 < s) (hs2 : s < 32) : fX3_highestBit_l4 N (n + 1) (wd g) (zI s) = fX3_highestBit_l4 N n (wd (hbS g s)) (zI ((s * 2 : Nat) : Int)) := by
  show fX3_highestBit_s4 N _ _ _ = _
  unfold fX3_highestBit_s4
  have c : (32 ≤ zI (s : Int)) = False := by rw [zl_32, zI_le (by omega) (by omega) (by omega) (by omega)]; exact eq_false (by omega)
  simp only [c, if_false]
  rw [← nI_zI, wd_ushr g hs2, wd_or, nI_zI, zl_2, zI_mul]
  rfl
theorem hb_inv {g : Nat → Bool} {s j : Nat} (hj : j < 32) (h : (∀ i, j < i → i < 32 → g i = false) ∧ ∀ i, i ≤ j → j < i + s → g i = true) : (∀ i, j < i → i < 32 → hbS g s i = false) ∧ ∀ i, i ≤ j → j < i + s * 2 → hbS g s i = true := by
  unfold hbS
  constructor
  · intro i h1 h2
    rw [h.1 i h1 h2]
    by_cases q : s + i < 32
    · rw [h.1 (s + i) (by omega) q]; simp
    · rw [decide_eq_false q]; rfl
  · intro i h1 h2
    by_cases q : j < i + s
    · rw [h.2 i h1 q]; rfl
    · rw [h.2 (s + i) (by omega) (by omega), decide_eq_true (show s + i < 32 by omega)]; simp
theorem e_highest {N : Nat} {f : Nat → Bool} {j : Nat} (hN : 200000 ≤ N) (hj : j < 32) (hf : f j = true) (hn : ∀ i, j < i → i < 32 → f i = false) : fX3_highestBit N (wd f) = some (zI j) := by
  obtain ⟨n, rfl⟩ : ∃ n, N = n + 6 := ⟨N - 6, by omega⟩
  have i0 : (∀ i, j < i → i < 32 → f i = false) ∧ ∀ i, i ≤ j → j < i + 1 → f i = true := ⟨hn, fun i a b => by rw [show i = j by omega]; exact hf⟩
  have i1 := hb_inv hj i0
  have i2 := hb_inv hj i1
  have i3 := hb_inv hj i2
  have i4 := hb_inv hj i3
  have i5 := hb_inv hj i4
  have e0 := hb_step (n + 6) (n + 5) (s := 1) f (by omega) (by omega)
  have e1 := hb_step (n + 6) (n + 4) (s := 1 * 2) (hbS f 1) (by omega) (by omega)
  have e2 := hb_step (n + 6) (n + 3) (s := 1 * 2 * 2) (hbS (hbS f 1) (1 * 2)) (by omega) (by omega)
  have e3 := hb_step (n + 6) (n + 2) (s := 1 * 2 * 2 * 2) (hbS (hbS (hbS f 1) (1 * 2)) (1 * 2 * 2)) (by omega) (by omega)
  have e4 := hb_step (n + 6) (n + 1) (s := 1 * 2 * 2 * 2 * 2) (hbS (hbS (hbS (hbS f 1) (1 * 2)) (1 * 2 * 2)) (1 * 2 * 2 * 2)) (by omega) (by omega)
  unfold fX3_highestBit
  refine e0.trans (e1.trans (e2.trans (e3.trans (e4.trans ?_))))
  have g5 : wd (hbS (hbS (hbS (hbS (hbS f 1) (1 * 2)) (1 * 2 * 2)) (1 * 2 * 2 * 2)) (1 * 2 * 2 * 2 * 2)) = wd (fun i => decide (i ≤ j)) := by
    apply wd_congr
    intro i hi
    by_cases q : i ≤ j
    · rw [i5.2 i q (by omega), decide_eq_true q]
    · rw [i5.1 i (by omega) hi, decide_eq_false q]
  rw [g5]
  show fX3_highestBit_s4 (n + 6) _ _ _ = _
  unfold fX3_highestBit_s4
  have c : (32 ≤ zI ((1 * 2 * 2 * 2 * 2 * 2 : Nat) : Int)) = True := by rw [zl_32, zI_le (by omega) (by omega) (by omega) (by omega)]; exact eq_true (by omega)
  simp only [c, if_true]
  rw [e_bitCount, (low_tab j hj).2.2, Option.bind_some, show ((1 : Int32)) = zI 1 from rfl, zI_sub]
  congr 2; omega
/-- the edge of the places -/
def vv (m bell : Int) (r : Nat) : Int := if m < 2 then rX r bell else rY r bell
def btr (m a b : Int) : Prop := if m % 2 = 1 then b ≤ a else a ≤ b
def isEdge (κ : Nat → Int32) (bell m E : Int) : Prop := (∃ r, r < 50176 ∧ fitR κ r = true ∧ vv m bell r = E) ∧ ∀ r, r < 50176 → fitR κ r = true → btr m E (vv m bell r)
theorem isEdge_u {κ : Nat → Int32} {bell m E F : Int} (h : isEdge κ bell m E) (h2 : isEdge κ bell m F) : E = F := by
  obtain ⟨⟨r, a1, a2, a3⟩, a4⟩ := h
  obtain ⟨⟨s, b1, b2, b3⟩, b4⟩ := h2
  have p := a4 s b1 b2
  have q := b4 r a1 a2
  rw [b3] at p
  rw [a3] at q
  unfold btr at p q
  split at p <;> rename_i d
  · rw [if_pos d] at q; omega
  · rw [if_neg d] at q; omega
noncomputable def spanV (κ : Nat → Int32) (bell m : Int) : Int := @dite Int (∃ E, isEdge κ bell m E) (Classical.propDecidable _) (fun h => Classical.choose h) (fun _ => -1000)
theorem spanV_e {κ : Nat → Int32} {bell m E : Int} (h : isEdge κ bell m E) : spanV κ bell m = E := by
  unfold spanV
  rw [dif_pos ⟨E, h⟩]
  exact isEdge_u (Classical.choose_spec (p := fun E => isEdge κ bell m E) ⟨E, h⟩) h
theorem spanV_0 {κ : Nat → Int32} {bell m : Int} (h : fb_ct (fitR κ) 50176 = 0) : spanV κ bell m = -1000 := by
  unfold spanV
  rw [dif_neg]
  rintro ⟨E, ⟨r, a, b, _⟩, _⟩
  rw [(fb_ct_zero.mp h) r a] at b
  exact Bool.noConfusion b
theorem lane_ex {r : Nat} (h : r < 50176) : ∃ l j, l < 1568 ∧ j < 32 ∧ laneR l j = r := by
  refine ⟨r / 1568 * 49 + r % 49, r / 49 % 32, by omega, by omega, ?_⟩
  unfold laneR
  omega
theorem e_edge {N : Nat} {σ : qMem} {κ : Nat → Int32} {bell m : Int} (hN : 200000 ≤ N) (hp : plots σ.1 κ) (l0 : 0 ≤ bell) (l1 : bell ≤ 23) (m0 : 0 ≤ m) (m1 : m ≤ 3) (hct : 0 < fb_ct (fitR κ) 50176) :
    fX3_edge N (zI bell) (zI m) σ = some (zI (spanV κ bell m)) := by
  suffices h : ∀ (d : Bool) (s0 : Int), (d = true ↔ m % 2 = 1) → s0 = (if d then -768 else 768) → Ho (fX3_edge_b26 N (zI bell) (zI m) (bI d) (zI s0) σ) (fun r => r = zI (spanV κ bell m)) by
    unfold fX3_edge fX3_edge_b12
    have c : (irm (zI m) 2 = 1) = (m % 2 = 1) := by rw [zl_2, zl_1, zI_rem m0 (by omega) (by omega) (by omega), zI_eq (by omega) (by omega) (by omega) (by omega)]
    simp only [c]
    by_cases q : m % 2 = 1
    · rw [if_pos q, if_neg (by decide)]
      obtain ⟨r, e, rfl⟩ := h true (-768) (by simp [q]) rfl
      rw [← e, ← zI_neg]; rfl
    · rw [if_neg q, if_pos (by decide)]
      obtain ⟨r, e, rfl⟩ := h false 768 (by simp [q]) rfl
      rw [← e]; rfl
  intro d s0 hd hs0
  unfold fX3_edge_b26
  rw [show fX3_edge_l31 N σ N (zI bell) (zI m) (bI d) (zI s0) 0 = fX3_edge_l31 N σ N (zI bell) (zI m) (bI d) (zI s0) (zI 0) from rfl]
  have hb : ∀ a b, btr m a b = (if d then b ≤ a else a ≤ b) := by
    intro a b
    unfold btr
    by_cases q : m % 2 = 1
    · rw [if_pos q, hd.mpr q]; rfl
    · have e : d = false := by
        cases e : d
        · rfl
        · exact absurd (hd.mp e) q
      rw [if_neg q, e]; rfl
  have rng : ∀ r, r < 50176 → -69 ≤ vv m bell r ∧ vv m bell r ≤ 100 := by
    intro r hr
    have := rXY_rng hr l0 l1
    unfold vv
    split <;> omega
  refine lp_for (S := Int) (R := Int32) (fun n i s => fX3_edge_l31 N σ n (zI bell) (zI m) (bI d) (zI s) (zI i)) (fun i s => 0 ≤ i ∧ (∀ l j : Nat, (l : Int) < i → l < 1568 → j < 32 → fitR κ (laneR l j) = true → btr m s (vv m bell (laneR l j))) ∧ (s = s0 ∨ ∃ r, r < 50176 ∧ fitR κ r = true ∧ vv m bell r = s) ∧ -768 ≤ s ∧ s ≤ 768) _ 1568 ?_ ?_ N 0 s0 (by omega) (by omega) ⟨by omega, fun l j h => by omega, Or.inl rfl, by cases d <;> simp at hs0 <;> omega, by cases d <;> simp at hs0 <;> omega⟩
  · intro n s ⟨_, hs, ha, _, _⟩
    show Ho (fX3_edge_s31 N _ _ _ _ _ _ _) _
    unfold fX3_edge_s31
    rw [if_pos (by decide)]
    refine Ho_some ?_
    have al : ∀ r, r < 50176 → fitR κ r = true → btr m s (vv m bell r) := by
      intro r hr hf
      obtain ⟨l, j, a1, a2, a3⟩ := lane_ex hr
      rw [← a3] at hf ⊢
      exact hs l j (by omega) a1 a2 hf
    obtain ⟨r, r1, r2⟩ := fb_ct_pos.mp hct
    have k := al r r1 r2
    have k2 := rng r r1
    rw [hb] at k
    have ne : s ≠ s0 := by
      intro e
      cases d <;> simp at k hs0 <;> omega
    rcases ha with e | e
    · exact absurd e ne
    · exact congrArg zI (spanV_e ⟨e, al⟩).symm
  · intro n i s hi ⟨i0, hs, ha, s1, s2⟩ hc
    show Ho (fX3_edge_s31 N _ _ _ _ _ _ _) _
    unfold fX3_edge_s31
    have c : (1568 ≤ zI i) = False := by rw [zl_1568, zI_le (by omega) (by omega) (by omega) (by omega)]; exact eq_false (by omega)
    have cc : (ck (zI i) 1568 = true) = True := zI_ckT (by omega) (by omega) (by omega)
    have z : (zI i).toNatClampNeg = i.toNat := zI_clamp (by omega) (by omega)
    have i1 : zI i + 1 = zI (i + 1) := zI_add i 1
    have gl : gi σ 61 i.toNat = _ := hp.1 i.toNat (by omega)
    have ub := mulb (u := i / 7 % 7 - 3) (bell := bell) (by omega) (by omega) l0 l1
    have vb := mulb (u := i % 7 - 3) (bell := bell) (by omega) (by omega) l0 l1
    have lx : ∀ j : Nat, j < 32 → rX (laneR i.toNat j) bell = i / 49 + (i / 7 % 7 - 3) * bell ∧ rY (laneR i.toNat j) bell = (i % 7 - 3) * bell + j := by
      intro j hj
      have := rX_lane (lane := i.toNat) (y := j) (bell := bell) (by omega) hj
      rw [show ((i.toNat : Nat) : Int) = i by omega] at this
      exact this
    have lr : ∀ j : Nat, j < 32 → laneR i.toNat j < 50176 := fun j hj => (lane_dec (lane := i.toNat) (by omega) hj).2.2.2.2
    have m2 : (zI m < 2) = (m < 2) := by rw [zl_2, zI_lt (by omega) (by omega) (by omega) (by omega)]
    simp only [c, if_false, cc, if_true, z, gl, e_eastOf i0 hi, e_lowOf i0 hi, Option.bind_some, wd_eq0, m2]
    have skip : ∀ s', -768 ≤ s' → s' ≤ 768 → (s' = s0 ∨ ∃ r, r < 50176 ∧ fitR κ r = true ∧ vv m bell r = s') → (∀ b, btr m s b → btr m s' b) → (∀ j : Nat, j < 32 → fitR κ (laneR i.toNat j) = true → btr m s' (vv m bell (laneR i.toNat j))) → Ho (fX3_edge_b121 N (fX3_edge_l31 N σ n) (zI bell) (zI m) (bI d) (zI s') (zI i) σ) (fun r => r = zI (spanV κ bell m)) := by
      intro s' q1 q2 q3 q4 q5
      unfold fX3_edge_b121
      rw [i1]
      refine hc s' ⟨by omega, fun l j a1 a2 a3 a4 => ?_, q3, q1, q2⟩
      by_cases e : l = i.toNat
      · rw [e] at a4 ⊢
        exact q5 j a3 a4
      · exact q4 _ (hs l j (by clear q3 ha; omega) a2 a3 a4)
    by_cases q : ∀ j : Nat, j < 32 → fitR κ (laneR i.toNat j) = false
    · rw [if_pos q]
      exact skip s s1 s2 ha (fun _ h => h) (fun j hj hf => by rw [q j hj] at hf; exact Bool.noConfusion hf)
    · rw [if_neg q]
      have ex : ∃ j, j < 32 ∧ fitR κ (laneR i.toNat j) = true := Classical.byContradiction fun h => q fun j hj => by
        cases e : fitR κ (laneR i.toNat j)
        · rfl
        · exact absurd ⟨j, hj, e⟩ h
      have st : ∀ cand : Int, (∃ j, j < 32 ∧ fitR κ (laneR i.toNat j) = true ∧ vv m bell (laneR i.toNat j) = cand) → (∀ j : Nat, j < 32 → fitR κ (laneR i.toNat j) = true → btr m cand (vv m bell (laneR i.toNat j))) → Ho (fX3_edge_b98 N (fX3_edge_l31 N σ n) (zI bell) (zI m) (bI d) (zI s) (zI i) (zI cand) σ) (fun r => r = zI (spanV κ bell m)) := by
        intro cand ⟨j, j1, j2, j3⟩ hj
        have r1 := rng _ (lr j j1)
        rw [j3] at r1
        have at' : ∃ r, r < 50176 ∧ fitR κ r = true ∧ vv m bell r = cand := ⟨_, lr j j1, j2, j3⟩
        unfold fX3_edge_b98 fX3_edge_b119
        simp only [hb] at skip hj
        cases d
        · rw [if_pos (by decide), e_min (by omega) (by omega) (by omega) (by omega), Option.bind_some]
          refine skip (min s cand) (by omega) (by omega) ?_ (fun b h => ?_) (fun j a b => ?_)
          · rcases Int.le_total s cand with h | h
            · rw [show min s cand = s by omega]; exact ha
            · rw [show min s cand = cand by omega]; exact Or.inr at'
          · simp at h ⊢; omega
          · have := hj j a b
            simp at this ⊢; omega
        · rw [if_neg (by decide), e_max (by omega) (by omega) (by omega) (by omega), Option.bind_some]
          refine skip (max s cand) (by omega) (by omega) ?_ (fun b h => ?_) (fun j a b => ?_)
          · rcases Int.le_total s cand with h | h
            · rw [show max s cand = cand by omega]; exact Or.inr at'
            · rw [show max s cand = s by omega]; exact ha
          · simp at h ⊢; omega
          · have := hj j a b
            simp at this ⊢; omega
      by_cases q2 : m < 2
      · rw [if_pos q2]
        have ve : ∀ j : Nat, j < 32 → vv m bell (laneR i.toNat j) = i / 49 + (i / 7 % 7 - 3) * bell := fun j hj => by unfold vv; rw [if_pos q2, (lx j hj).1]
        obtain ⟨j, j1, j2⟩ := ex
        refine st _ ⟨j, j1, j2, ve j j1⟩ (fun k hk _ => ?_)
        rw [ve k hk, hb]
        cases d <;> simp
      · rw [if_neg q2]
        have ve : ∀ j : Nat, j < 32 → vv m bell (laneR i.toNat j) = (i % 7 - 3) * bell + j := fun j hj => by unfold vv; rw [if_neg q2, (lx j hj).2]
        cases d
        · obtain ⟨j, j1, j2, j3⟩ := low_ex ex
          rw [if_pos (by decide), e_lowest (f := fun y => fitR κ (laneR i.toNat y)) j1 j2 j3, Option.bind_some]
          unfold fX3_edge_b95
          rw [zI_add]
          refine st _ ⟨j, j1, j2, ve j j1⟩ (fun k hk hf => ?_)
          rw [ve k hk, hb]
          have : ¬ k < j := fun h => by rw [j3 k h] at hf; exact Bool.noConfusion hf
          simp; omega
        · obtain ⟨j, j1, j2, j3⟩ := high_ex ex
          rw [if_neg (by decide), e_highest (f := fun y => fitR κ (laneR i.toNat y)) hN j1 j2 j3, Option.bind_some]
          unfold fX3_edge_b95
          rw [zI_add]
          refine st _ ⟨j, j1, j2, ve j j1⟩ (fun k hk hf => ?_)
          rw [ve k hk, hb]
          have : ¬ j < k := fun h => by rw [j3 k h hk] at hf; exact Bool.noConfusion hf
          simp; omega
theorem btr_refl (m a : Int) : btr m a a := by unfold btr; split <;> omega
theorem btr_trans {m a b c : Int} (h : btr m a b) (h2 : btr m b c) : btr m a c := by
  unfold btr at *
  split at h <;> rename_i q
  · rw [if_pos q] at h2 ⊢; omega
  · rw [if_neg q] at h2 ⊢; omega
theorem btr_or (m a b : Int) : btr m a b ∨ btr m b a := by
  unfold btr
  split <;> omega
theorem r_spanL {N : Nat} {τ : qMem} {κ : Nat → Int32} {bell m : Int} (hN : 200000 ≤ N) (hf : fitsOK τ.1 κ) (l0 : 0 ≤ bell) (l1 : bell ≤ 23) (m0 : 0 ≤ m) (m1 : m ≤ 3) (hct : 0 < fb_ct (fitR κ) 50176) :
    Ho (fX12_span_l39 N N (zI bell) (zI m) 0 0 0 τ) (fun a => a = (zI (spanV κ bell m), τ)) := by
  rw [show fX12_span_l39 N N (zI bell) (zI m) 0 0 0 τ = fX12_span_l39 N N (zI bell) (zI m) (zI 0) (bI false) (zI 0) τ from rfl]
  refine lp_for (S := Int × Bool) (R := Int32 × qMem) (fun n i s => fX12_span_l39 N n (zI bell) (zI m) (zI s.1) (bI s.2) (zI i) τ) (fun i s => 0 ≤ i ∧ -100 ≤ s.1 ∧ s.1 ≤ 100 ∧ (s.2 = false → ∀ r : Nat, (r : Int) < i → fitR κ r = false) ∧ (s.2 = true → (∃ r : Nat, (r : Int) < i ∧ fitR κ r = true ∧ vv m bell r = s.1) ∧ ∀ r : Nat, (r : Int) < i → fitR κ r = true → btr m s.1 (vv m bell r))) _ 50176 ?_ ?_ N 0 (0, false) (by omega) (by omega) ⟨by omega, by simp, by simp, fun _ r h => by omega, fun h => Bool.noConfusion h⟩
  · intro n ⟨s, b⟩ ⟨_, _, _, h1, h2⟩
    show Ho (fX12_span_s39 N _ _ _ _ _ _ _) _
    unfold fX12_span_s39
    rw [if_pos (by decide)]
    refine Ho_some ?_
    cases b
    · obtain ⟨r, r1, r2⟩ := fb_ct_pos.mp hct
      rw [h1 rfl r (by omega)] at r2
      exact Bool.noConfusion r2
    · obtain ⟨⟨r, a, b, c⟩, d⟩ := h2 rfl
      have : isEdge κ bell m s := ⟨⟨r, by omega, b, c⟩, fun r hr => d r (by omega)⟩
      rw [spanV_e this]
  · intro n i ⟨s, b⟩ hi ⟨i0, s1, s2, h1, h2⟩ hc
    show Ho (fX12_span_s39 N _ _ _ _ _ _ _) _
    unfold fX12_span_s39
    have c : (50176 ≤ zI i) = False := by rw [zl_50176, zI_le (by omega) (by omega) (by omega) (by omega)]; exact eq_false (by omega)
    obtain ⟨e1, e2, e3, e4⟩ := r_code i0 hi
    obtain ⟨p1, p2⟩ := r_placeX (bell := bell) i0 hi
    have rg := rXY_rng (r := i.toNat) (by omega) l0 l1
    have cc : (ck (zI i) 50176 = true) = True := zI_ckT (by omega) (by omega) (by omega)
    have z : (zI i).toNatClampNeg = i.toNat := zI_clamp (by omega) (by omega)
    have i1 : zI i + 1 = zI (i + 1) := zI_add i 1
    have gl : gi τ 7 i.toNat = bI (fitR κ i.toNat) := hf.1 i.toNat (by omega)
    have m2 : (2 ≤ zI m) = (2 ≤ m) := by rw [zl_2, zI_le (by omega) (by omega) (by omega) (by omega)]
    have mr : (irm (zI m) 2 = 0) = (m % 2 = 0) := by rw [zl_2, show (0 : Int32) = zI 0 from rfl, zI_rem m0 (by omega) (by omega) (by omega), zI_eq (by omega) (by omega) (by omega) (by omega)]
    dsimp only at s1 s2 h1 h2 ⊢
    simp only [c, if_false, e1, e2, e3, e4, Option.bind_some, cc, if_true, z, gl, p1, p2, if_bI, m2]
    have nx : ∀ (s' : Int) (b' : Bool), -100 ≤ s' → s' ≤ 100 → (b' = false → b = false ∧ fitR κ i.toNat = false) → (b' = true → ((fitR κ i.toNat = true ∧ vv m bell i.toNat = s') ∨ (b = true ∧ s' = s)) ∧ (fitR κ i.toNat = true → btr m s' (vv m bell i.toNat)) ∧ (b = true → btr m s' s)) → Ho (fX12_span_b127 N (fX12_span_l39 N n) (zI bell) (zI m) (zI s') (bI b') (zI i) τ) (fun a => a = (zI (spanV κ bell m), τ)) := by
      intro s' b' q1 q2 q3 q4
      unfold fX12_span_b127
      rw [i1]
      refine hc (s', b') ⟨by omega, q1, q2, fun hb r hr => ?_, fun hb => ⟨?_, fun r hr hf => ?_⟩⟩
      · by_cases e : r = i.toNat
        · rw [e]; exact (q3 hb).2
        · exact h1 (q3 hb).1 r (by omega)
      · rcases (q4 hb).1 with ⟨a1, a2⟩ | ⟨a1, a2⟩
        · exact ⟨i.toNat, by omega, a1, a2⟩
        · obtain ⟨⟨r, x1, x2, x3⟩, _⟩ := h2 a1
          exact ⟨r, by omega, x2, by rw [x3, a2]⟩
      · by_cases e : r = i.toNat
        · rw [e] at hf ⊢; exact (q4 hb).2.1 hf
        · cases hbb : b
          · rw [h1 hbb r (by omega)] at hf; exact Bool.noConfusion hf
          · exact btr_trans ((q4 hb).2.2 hbb) ((h2 hbb).2 r (by omega) hf)
    by_cases q : fitR κ i.toNat = true
    · rw [if_pos q]
      have main : ∀ x : Int, vv m bell i.toNat = x → -69 ≤ x → x ≤ 100 → Ho (fX12_span_b93 N (fX12_span_l39 N n) (zI bell) (zI m) (zI s) (bI b) (zI i) (zI x) τ) (fun a => a = (zI (spanV κ bell m), τ)) := by
        intro x hx x0 x1
        have take : (b = true → btr m x s) → Ho (fX12_span_b121 N (fX12_span_l39 N n) (zI bell) (zI m) (zI i) (zI x) τ) (fun a => a = (zI (spanV κ bell m), τ)) := by
          intro hb
          unfold fX12_span_b121 fX12_span_b124
          exact nx x true (by omega) (by omega) (fun h => Bool.noConfusion h) (fun _ => ⟨Or.inl ⟨q, hx⟩, fun _ => by rw [hx]; exact btr_refl m x, hb⟩)
        have keep : b = true → btr m s x → Ho (fX12_span_b124 N (fX12_span_l39 N n) (zI bell) (zI m) (zI s) (zI i) τ) (fun a => a = (zI (spanV κ bell m), τ)) := by
          intro hb hk
          unfold fX12_span_b124
          exact nx s true s1 s2 (fun h => Bool.noConfusion h) (fun _ => ⟨Or.inr ⟨hb, rfl⟩, fun _ => by rw [hx]; exact hk, fun _ => btr_refl m s⟩)
        unfold fX12_span_b93
        have d1 : (zI s ≤ zI x) = (s ≤ x) := zI_le (by omega) (by omega) (by omega) (by omega)
        have d2 : (zI x ≤ zI s) = (x ≤ s) := zI_le (by omega) (by omega) (by omega) (by omega)
        simp only [if_bI, mr, d1, d2]
        cases hb : b
        · rw [if_neg (by decide)]
          exact take (fun h => by rw [hb] at h; exact Bool.noConfusion h)
        · rw [if_pos rfl]
          by_cases w : m % 2 = 0
          · rw [if_pos w]
            by_cases w2 : s ≤ x
            · rw [if_pos w2]
              exact keep hb (by unfold btr; rw [if_neg (by omega)]; exact w2)
            · rw [if_neg w2]
              exact take (fun _ => by unfold btr; rw [if_neg (by omega)]; omega)
          · rw [if_neg w]
            by_cases w2 : x ≤ s
            · rw [if_pos w2]
              exact keep hb (by unfold btr; rw [if_pos (by omega)]; exact w2)
            · rw [if_neg w2]
              exact take (fun _ => by unfold btr; rw [if_pos (by omega)]; omega)
      by_cases w : 2 ≤ m
      · rw [if_pos w]
        exact main _ (by unfold vv; rw [if_neg (by omega)]) rg.2.1 rg.2.2
      · rw [if_neg w]
        exact main _ (by unfold vv; rw [if_pos (by omega)]) rg.1.1 rg.1.2
    · rw [if_neg q]
      rw [Bool.not_eq_true] at q
      exact nx s b s1 s2 (fun h => ⟨h, q⟩) (fun h => ⟨Or.inr ⟨h, rfl⟩, fun h2 => (by rw [q] at h2; exact Bool.noConfusion h2), fun _ => btr_refl m s⟩)
theorem fit_le (κ : Nat → Int32) : ((fb_ct (fitR κ) 50176 : Nat) : Int) ≤ 50176 := by
  have := fb_ct_le (fitR κ) 50176
  omega
theorem r_span {N : Nat} {τ : qMem} {κ : Nat → Int32} {bell m : Int} (hN : 200000 ≤ N) (hκ : τ.1 2 = κ) (hw : KW κ) (hr : RC τ.1 κ) (hv : 0 ≤ (gi τ 0 2).toInt) (l0 : 0 ≤ bell) (l1 : bell ≤ 23) (m0 : 0 ≤ m) (m1 : m ≤ 3) :
    Ho (fX12_span N (zI bell) (zI m) τ) (fun a => a.1 = zI (spanV κ bell m) ∧ SM τ a.2 ∧ RC a.2.1 κ ∧ gi a.2 0 12 = zI (fb_ct (fitR κ) 50176)) := by
  unfold fX12_span
  refine Ho_bind (r_fits hN hκ hw hr hv) fun t ⟨w1, w2, w3⟩ => ?_
  have g : gi t 0 12 = zI (fb_ct (fitR κ) 50176) := w3.2
  have le := fit_le κ
  have c : (zI ((fb_ct (fitR κ) 50176 : Nat) : Int) = 0) = (fb_ct (fitR κ) 50176 = 0) := by
    rw [show (0 : Int32) = zI 0 from rfl, zI_eq (by omega) (by omega) (by omega) (by omega)]
    exact propext ⟨fun h => by omega, fun h => by omega⟩
  have b1 : fX12_in (zI m) 0 3 = some (bI (decide (0 ≤ m ∧ m ≤ 3))) := e_in (b := 0) (c := 3) (by omega) (by omega) (by omega) (by omega) (by omega) (by omega)
  simp only [r_isBell (show -2147483648 ≤ bell by omega) (by omega), b1, Option.bind_some, if_bI, decide_eq_true_eq, g, c]
  rw [if_pos ⟨l0, l1⟩, if_pos ⟨m0, m1⟩]
  by_cases q : fb_ct (fitR κ) 50176 = 0
  · rw [if_pos q]
    refine Ho_some ⟨?_, w1, w2, g⟩
    rw [spanV_0 q]; rfl
  · rw [if_neg q]
    refine Ho_mono (r_spanL hN w3 l0 l1 m0 m1 (by omega)) fun a ha => ?_
    rw [ha]
    exact ⟨rfl, w1, w2, g⟩
theorem r_span_bad {N : Nat} {τ : qMem} {κ : Nat → Int32} {bell m : Int} (hN : 200000 ≤ N) (hκ : τ.1 2 = κ) (hw : KW κ) (hr : RC τ.1 κ) (hv : 0 ≤ (gi τ 0 2).toInt) (z0 : -2147483648 ≤ bell) (z1 : bell < 2147483648) (z2 : -2147483648 ≤ m) (z3 : m < 2147483648) (hb : ¬ ((0 ≤ bell ∧ bell ≤ 23) ∧ 0 ≤ m ∧ m ≤ 3)) :
    Ho (fX12_span N (zI bell) (zI m) τ) (fun a => a.1 = -1000 ∧ SM τ a.2 ∧ RC a.2.1 κ) := by
  unfold fX12_span
  refine Ho_bind (r_fits hN hκ hw hr hv) fun t ⟨w1, w2, w3⟩ => ?_
  have b1 : fX12_in (zI m) 0 3 = some (bI (decide (0 ≤ m ∧ m ≤ 3))) := e_in (b := 0) (c := 3) z2 z3 (by omega) (by omega) (by omega) (by omega)
  simp only [r_isBell z0 z1, b1, Option.bind_some, if_bI, decide_eq_true_eq]
  by_cases q : 0 ≤ bell ∧ bell ≤ 23
  · rw [if_pos q, if_neg (fun h => hb ⟨q, h⟩)]
    exact Ho_some ⟨rfl, w1, w2⟩
  · rw [if_neg q]
    exact Ho_some ⟨rfl, w1, w2⟩
theorem b_span {LW : LWt} {c N : Nat} {σ τ : qMem} (hN : 200000 ≤ N) (hLW : LWc LW) (h : Inv LW c σ τ) (p1 p2 : Int32) : Both LW c (fX11_span N p1 p2 σ) (fX12_span N p1 p2 τ) := by
  obtain ⟨a1, l1, u1, rfl⟩ := zI_ex p1
  obtain ⟨a2, l2, u2, rfl⟩ := zI_ex p2
  have i2 : fX11_isIn (zI a2) 0 3 = some (bI (decide (0 ≤ a2 ∧ a2 ≤ 3))) := e_isIn (b := 0) (c := 3) l2 u2 (by omega) (by omega) (by omega) (by omega)
  by_cases q : (0 ≤ a1 ∧ a1 ≤ 23) ∧ 0 ≤ a2 ∧ a2 ≤ 3
  · refine both_q (v := zI (spanV (τ.1 2) a1 a2)) hLW h ?_ ?_
    · unfold fX11_span
      simp only [e_isBell l1 u1, i2, Option.bind_some, if_bI, decide_eq_true_eq]
      rw [if_pos q.1, if_pos q.2]
      refine Ho_bind (e_plot hN (Inv_CI h)) fun s ⟨w1, w2, w3, _⟩ => ?_
      have g : gi s 44 14 = zI (fb_ct (fitR (τ.1 2)) 50176) := w3.2
      have le := fit_le (τ.1 2)
      have c : (zI ((fb_ct (fitR (τ.1 2)) 50176 : Nat) : Int) ≤ 0) = (fb_ct (fitR (τ.1 2)) 50176 = 0) := by
        rw [show (0 : Int32) = zI 0 from rfl, zI_le (by omega) (by omega) (by omega) (by omega)]
        exact propext ⟨fun h => by omega, fun h => by omega⟩
      simp only [g, c]
      by_cases z : fb_ct (fitR (τ.1 2)) 50176 = 0
      · rw [if_pos z]
        exact Ho_some ⟨by rw [spanV_0 z]; rfl, w2, w1.2.2.2⟩
      · rw [if_neg z, e_edge hN w3 q.1.1 q.1.2 q.2.1 q.2.2 (by omega), Option.bind_some]
        exact Ho_some ⟨rfl, w2, w1.2.2.2⟩
    · exact Ho_mono (r_span hN rfl (Inv_KW h) (Inv_RC h) (Inv_v h) q.1.1 q.1.2 q.2.1 q.2.2) fun a ha => ⟨ha.1, ha.2.1, ha.2.2.1⟩
  · refine both_q (v := -1000) hLW h ?_ ?_
    · unfold fX11_span
      simp only [e_isBell l1 u1, i2, Option.bind_some, if_bI, decide_eq_true_eq]
      by_cases q1 : 0 ≤ a1 ∧ a1 ≤ 23
      · rw [if_pos q1, if_neg (fun h => q ⟨q1, h⟩)]
        exact Ho_some ⟨rfl, SC_refl _, (Inv_CI h).2.2.2⟩
      · rw [if_neg q1]
        exact Ho_some ⟨rfl, SC_refl _, (Inv_CI h).2.2.2⟩
    · exact r_span_bad hN rfl (Inv_KW h) (Inv_RC h) (Inv_v h) l1 u1 l2 u2 q
