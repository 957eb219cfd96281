/-! who may be next: the rows -/
def hdS (κ : Nat → Int32) (i : Nat) (f : Nat) : Int := kI κ (80 + 3 * i + f)
def nxB (κ : Nat → Int32) (boat : Int) (i k : Nat) : Bool := decide (hdS κ k 0 = boat ∧ (1 ≤ hdS κ k 1 - hdS κ i 1 ∧ hdS κ k 1 - hdS κ i 1 ≤ kI κ 48) ∧ turnS (hdS κ i 2) (hdS κ k 2) ≤ kI κ 49 * (hdS κ k 1 - hdS κ i 1))
def rwB (κ : Nat → Int32) (H : Nat) (boat : Int) (i k : Nat) : Bool := decide (i < H ∧ k < H ∧ hdS κ i 0 = boat) && nxB κ boat i k
section RWS
variable {κ : Nat → Int32} {H : Nat}
theorem hd_rng (hw : KW κ) (hH : kI κ 300 = H) {i : Nat} (hi : i < H) : (0 ≤ hdS κ i 0 ∧ hdS κ i 0 ≤ 1) ∧ (0 ≤ hdS κ i 1 ∧ hdS κ i 1 ≤ 23) ∧ (0 ≤ hdS κ i 2 ∧ hdS κ i 2 ≤ 79) := by
  have := hw.2.2.1.2 i (by omega) (by omega)
  unfold hdS
  rw [show (80 + 3 * (i : Int) + ((0 : Nat) : Int)) = 80 + 3 * (i : Int) by omega]
  exact this
theorem turn_rng {a b : Int} (h1 : 0 ≤ a) (h2 : a ≤ 79) (h3 : 0 ≤ b) (h4 : b ≤ 79) : 0 ≤ turnS a b ∧ turnS a b ≤ 79 := by
  unfold turnS szS
  omega
theorem wd_set {f : Nat → Bool} {k : Nat} (hk : k < 32) : wd f ||| ((1 : Int32) <<< (zI k &&& 31)) = wd (fun j => f j || decide (j = k)) := by
  rw [show zI (k : Int) = nI k from rfl, wd_one hk, wd_or]
/-- a row of the class's -/
def hdK (σ : qMem) (κ : Nat → Int32) (H : Nat) : Prop := gi σ 19 0 = zI 3 ∧ gi σ 19 3 = zI H ∧ (∀ i f : Nat, i < H → f < 3 → gi σ 20 (3 * i + f) = zI (hdS κ i f)) ∧ gi σ 18 4 = zI (kI κ 48) ∧ gi σ 18 5 = zI (kI κ 49)
theorem hdK_of {σ : qMem} (h : CI σ.1 κ) (hH : kI κ 300 = H) : hdK σ κ H := by
  obtain ⟨bs, bk, kw, _⟩ := h
  have r := bk.2.2.2.2.1
  have kb := kw.2.2.1.1
  refine ⟨bs.2.2.1.1, (r.1.trans (zI_of _).symm).trans (congrArg zI hH), fun i f hi hf => ?_, (bk.2.2.2.1 4 (by omega)).trans (zI_of _).symm, (bk.2.2.2.1 5 (by omega)).trans (zI_of _).symm⟩
  refine (r.2 (3 * i + f) (by omega)).trans ?_
  unfold hdS kI
  rw [show (80 + 3 * (i : Int) + (f : Int)).toNat = 80 + (3 * i + f) by omega]
  exact (zI_of _).symm
theorem e_hat {σ : qMem} (hH24 : H ≤ 24) (h : hdK σ κ H) {i f : Nat} (hi : i < H) (hf : f < 3) : fX8_at 19 72 (zI i) (zI f) σ = some (zI (hdS κ i f)) := by
  rw [e_at (n := 72) h.1 h.2.1 (by omega) (by omega) (by omega) (by omega) (by omega) (by omega) (by omega), show ((i : Int) * 3 + (f : Int)).toNat = 3 * i + f by omega]
  exact congrArg some (h.2.2.1 i f hi hf)
theorem e_nextsOf {N : Nat} {σ : qMem} {boat : Int} {i : Nat} (hN : 200000 ≤ N) (hw : KW κ) (hH : kI κ 300 = H) (hH24 : H ≤ 24) (h : hdK σ κ H) (hi : i < H) (b0 : 0 ≤ boat) (b1 : boat ≤ 1) : fX4_nextsOf N (zI i) (zI boat) σ = some (wd (fun k => decide (k < H) && nxB κ boat i k)) := by
  have ri := hd_rng hw hH hi
  have kt := hw.2.1
  have loop : ∀ (d k f : Nat), k + d = H → d < f → fX4_nextsOf_l5 N σ f (zI i) (zI boat) (wd (fun j => decide (j < k) && nxB κ boat i j)) (zI k) = some (wd (fun j => decide (j < H) && nxB κ boat i j)) := by
    intro d
    induction d with
    | zero =>
      intro k f hk hf
      obtain ⟨f, rfl⟩ : ∃ x, f = x + 1 := ⟨f - 1, by omega⟩
      have : k = H := by omega
      subst this
      show fX4_nextsOf_s5 N _ _ _ _ (zI k) σ = _
      unfold fX4_nextsOf_s5
      have c1 : (gi σ 19 3 ≤ zI k) = True := by rw [h.2.1, zI_le (by omega) (by omega) (by omega) (by omega)]; exact eq_true (by omega)
      simp only [c1, if_true]
    | succ d ih =>
      intro k f hk hf
      obtain ⟨f, rfl⟩ : ∃ x, f = x + 1 := ⟨f - 1, by omega⟩
      have rk := hd_rng hw hH (show k < H by omega)
      show fX4_nextsOf_s5 N _ _ _ _ (zI k) σ = _
      unfold fX4_nextsOf_s5 fX4_nextsOf_b139
      have c1 : (gi σ 19 3 ≤ zI k) = False := by rw [h.2.1, zI_le (by omega) (by omega) (by omega) (by omega)]; exact eq_false (by omega)
      have a1 : fX8_at 19 72 (zI k) 1 σ = _ := e_hat hH24 h (f := 1) (show k < H by omega) (by omega)
      have a2 : fX8_at 19 72 (zI i) 1 σ = _ := e_hat hH24 h (f := 1) hi (by omega)
      have a3 : fX8_at 19 72 (zI k) 0 σ = _ := e_hat hH24 h (f := 0) (show k < H by omega) (by omega)
      have a4 : fX8_at 19 72 (zI i) 2 σ = _ := e_hat hH24 h (f := 2) hi (by omega)
      have a5 : fX8_at 19 72 (zI k) 2 σ = _ := e_hat hH24 h (f := 2) (show k < H by omega) (by omega)
      have tr := turn_rng ri.2.2.1 ri.2.2.2 rk.2.2.1 rk.2.2.2
      have k4 := kt.2.2.2.2.1
      have k5 := kt.2.2.2.2.2.1
      have ex : zI (hdS κ k 1) - zI (hdS κ i 1) = zI (hdS κ k 1 - hdS κ i 1) := zI_sub _ _
      have nx : zI k + 1 = zI ((k + 1 : Nat) : Int) := by rw [show (1 : Int32) = zI 1 from rfl, zI_add]; rfl
      generalize hl : hdS κ k 1 - hdS κ i 1 = la at *
      have mr : -10000 ≤ kI κ 49 * la ∧ kI κ 49 * la ≤ 10000 := by
        have h1 : (kI κ 49 * la).natAbs ≤ 40 * 23 := by rw [Int.natAbs_mul]; exact Nat.mul_le_mul (by omega) (by omega)
        omega
      have c3 : (zI (hdS κ k 0) = zI boat) = (hdS κ k 0 = boat) := by rw [zI_eq (by omega) (by omega) (by omega) (by omega)]
      have c4 : (zI la < 1) = (la < 1) := by rw [show (1 : Int32) = zI 1 from rfl, zI_lt (by omega) (by omega) (by omega) (by omega)]
      have c5 : (gi σ 18 4 < zI la) = (kI κ 48 < la) := by rw [h.2.2.2.1, zI_lt (by omega) (by omega) (by omega) (by omega)]
      have c6 : (gi σ 18 5 * zI la < zI (turnS (hdS κ i 2) (hdS κ k 2))) = (kI κ 49 * la < turnS (hdS κ i 2) (hdS κ k 2)) := by rw [h.2.2.2.2, zI_mul, zI_lt (by omega) (by omega) (by omega) (by omega)]
      have q4 : (ck (4 : Int32) 6 = true) = True := by decide
      have q5 : (ck (5 : Int32) 6 = true) = True := by decide
      simp only [c1, if_false, a1, a2, a3, a4, a5, Option.bind_some, ex, c3, c4, q4, q5, if_true, show (4 : Int32).toNatClampNeg = 4 from rfl, show (5 : Int32).toNatClampNeg = 5 from rfl, c5, e_between ri.2.2.1 ri.2.2.2 rk.2.2.1 rk.2.2.2, c6, nx, nmI]
      have no : nxB κ boat i k = false → fX4_nextsOf_l5 N σ f (zI i) (zI boat) (wd (fun j => decide (j < k) && nxB κ boat i j)) (zI ((k + 1 : Nat) : Int)) = some (wd (fun j => decide (j < H) && nxB κ boat i j)) := fun hno => by
        rw [← ih (k + 1) f (by omega) (by omega)]
        congr 1
        refine wd_congr (fun j _ => ?_)
        by_cases e : j = k
        · rw [e, hno, Bool.and_false, Bool.and_false]
        · congr 1
          exact decide_eq_decide.mpr (by omega)
      have nb : nxB κ boat i k = decide (hdS κ k 0 = boat ∧ (1 ≤ la ∧ la ≤ kI κ 48) ∧ turnS (hdS κ i 2) (hdS κ k 2) ≤ kI κ 49 * la) := by unfold nxB; rw [hl]
      by_cases z1 : hdS κ k 0 = boat
      · rw [if_pos z1]
        by_cases z2 : la < 1
        · rw [if_pos z2]; exact no (by rw [nb]; exact decide_eq_false (by omega))
        · rw [if_neg z2]
          by_cases z3 : kI κ 48 < la
          · rw [if_pos z3]; exact no (by rw [nb]; exact decide_eq_false (by omega))
          · rw [if_neg z3]
            by_cases z4 : kI κ 49 * la < turnS (hdS κ i 2) (hdS κ k 2)
            · rw [if_pos z4]; exact no (by rw [nb]; exact decide_eq_false (by omega))
            · rw [if_neg z4, wd_set (by omega), ← ih (k + 1) f (by omega) (by omega)]
              congr 1
              refine wd_congr (fun j _ => ?_)
              by_cases e : j = k
              · rw [e, decide_eq_true rfl, Bool.or_true, nb, decide_eq_true (show k < k + 1 by omega), Bool.true_and]
                exact (decide_eq_true ⟨z1, ⟨by omega, by omega⟩, by omega⟩).symm
              · rw [decide_eq_false e, Bool.or_false]
                congr 1
                exact decide_eq_decide.mpr (by omega)
      · rw [if_neg z1]; exact no (by rw [nb]; exact decide_eq_false (fun z => z1 z.1))
  unfold fX4_nextsOf
  have := loop H 0 N (by omega) (by omega)
  have e0 : wd (fun j => decide (j < 0) && nxB κ boat i j) = 0 := by
    rw [← wd_zero]
    exact wd_congr (fun j _ => by rw [decide_eq_false (by omega), Bool.false_and])
  rw [e0] at this
  exact this
/-- so many of a boat -/
def mbN (κ : Nat → Int32) (H : Nat) (boat : Int) (i : Nat) : Nat := fb_ct (fun j => decide (j < H ∧ hdS κ j 0 = boat)) i
theorem e_rows {N : Nat} {σ : qMem} {boat : Int} (hN : 200000 ≤ N) (hw : KW κ) (hH : kI κ 300 = H) (hH24 : H ≤ 24) (h : hdK σ κ H) (b0 : 0 ≤ boat) (b1 : boat ≤ 1) : ∃ s, fX4_draw N (zI boat) σ = ((fX4_join N 74 s).bind fun y2 => (nmM (si y2.2 73 6 y2.1) fun s3 => (some s3))) ∧ (∀ i, i < 24 → gi s 74 i = wd (rwB κ H boat i)) ∧ gi s 73 5 = zI (mbN κ H boat 24 : Nat) ∧ ∀ k j, ¬ ((k = 73 ∧ j = 5) ∨ k = 74) → gi s k j = gi σ k j := by
  have loop : ∀ (d i f : Nat) (s : qMem), i + d = 24 → d < f → (∀ j, j < i → gi s 74 j = wd (rwB κ H boat j)) → gi s 73 5 = zI (mbN κ H boat i : Nat) → (∀ k j, ¬ ((k = 73 ∧ j = 5) ∨ k = 74) → gi s k j = gi σ k j) → ∃ s', fX4_draw_l7 N f (zI boat) (zI i) s = ((fX4_join N 74 s').bind fun y2 => (nmM (si y2.2 73 6 y2.1) fun s3 => (some s3))) ∧ (∀ i, i < 24 → gi s' 74 i = wd (rwB κ H boat i)) ∧ gi s' 73 5 = zI (mbN κ H boat 24 : Nat) ∧ ∀ k j, ¬ ((k = 73 ∧ j = 5) ∨ k = 74) → gi s' k j = gi σ k j := by
    intro d
    induction d with
    | zero =>
      intro i f s hi hf h1 h2 h3
      obtain ⟨f, rfl⟩ : ∃ x, f = x + 1 := ⟨f - 1, by omega⟩
      have : i = 24 := by omega
      subst this
      refine ⟨s, ?_, h1, h2, h3⟩
      show fX4_draw_s7 N _ (zI boat) (zI (24 : Nat)) s = _
      unfold fX4_draw_s7
      rw [if_pos (by decide)]
    | succ d ih =>
      intro i f s hi hf h1 h2 h3
      obtain ⟨f, rfl⟩ : ∃ x, f = x + 1 := ⟨f - 1, by omega⟩
      show ∃ s', fX4_draw_s7 N (fX4_draw_l7 N f) (zI boat) (zI i) s = _ ∧ _
      unfold fX4_draw_s7 fX4_draw_b72
      have c24 : (24 ≤ zI i) = False := by rw [show (24 : Int32) = zI 24 from rfl, zI_le (by omega) (by omega) (by omega) (by omega)]; exact eq_false (by omega)
      have ki : (ck (zI i) 24 = true) = True := zI_ckT (by omega) (by omega) (by omega)
      have zi : (zI i).toNatClampNeg = i := by rw [zI_clamp (by omega) (by omega)]; omega
      have nx : zI i + 1 = zI ((i + 1 : Nat) : Int) := by rw [show (1 : Int32) = zI 1 from rfl, zI_add]; rfl
      have f1 : ∀ k j, ¬ ((k = 73 ∧ j = 5) ∨ k = 74) → gi (si s 74 i 0) k j = gi σ k j := fun k j hk => by rw [gi_si, if_neg (by omega)]; exact h3 k j hk
      have hk1 : hdK (si s 74 i 0) κ H := ⟨(f1 _ _ (by omega)).trans h.1, (f1 _ _ (by omega)).trans h.2.1, fun a b ha hb => (f1 _ _ (by omega)).trans (h.2.2.1 a b ha hb), (f1 _ _ (by omega)).trans h.2.2.2.1, (f1 _ _ (by omega)).trans h.2.2.2.2⟩
      have cH : (gi (si s 74 i 0) 19 3 ≤ zI i) = (H ≤ i) := by rw [hk1.2.1, zI_le (by omega) (by omega) (by omega) (by omega)]; exact propext (by omega)
      have m1 : mbN κ H boat (i + 1) = mbN κ H boat i + (if decide (i < H ∧ hdS κ i 0 = boat) then 1 else 0) := rfl
      simp only [c24, if_false, ki, zi, if_true, nmM, cH, nx]
      have zero : (∀ k, rwB κ H boat i k = false) → ¬ (i < H ∧ hdS κ i 0 = boat) → ∃ s', fX4_draw_l7 N f (zI boat) (zI ((i + 1 : Nat) : Int)) (si s 74 i 0) = ((fX4_join N 74 s').bind fun y2 => (nmM (si y2.2 73 6 y2.1) fun s3 => (some s3))) ∧ (∀ i, i < 24 → gi s' 74 i = wd (rwB κ H boat i)) ∧ gi s' 73 5 = zI (mbN κ H boat 24 : Nat) ∧ ∀ k j, ¬ ((k = 73 ∧ j = 5) ∨ k = 74) → gi s' k j = gi σ k j := fun hz hn => by
        refine ih (i + 1) f _ (by omega) (by omega) (fun j hj => ?_) ?_ f1
        · rw [gi_si]
          by_cases e : j = i
          · rw [if_pos ⟨rfl, e⟩, e, ← wd_zero]
            exact wd_congr (fun k _ => (hz k).symm)
          · rw [if_neg (by omega)]; exact h1 j (by omega)
        · rw [gi_si, if_neg (by omega), h2, m1, decide_eq_false hn]
          rfl
      by_cases q : H ≤ i
      · rw [if_pos q]
        exact zero (fun k => by unfold rwB; rw [decide_eq_false (by omega), Bool.false_and]) (by omega)
      · rw [if_neg q]
        have ri := hd_rng hw hH (show i < H by omega)
        have a0 : fX8_at 19 72 (zI i) 0 (si s 74 i 0) = _ := e_hat hH24 hk1 (f := 0) (show i < H by omega) (by omega)
        have cb : (zI (hdS κ i 0) = zI boat) = (hdS κ i 0 = boat) := by rw [zI_eq (by omega) (by omega) (by omega) (by omega)]
        rw [a0, Option.bind_some]
        simp only [cb]
        by_cases qb : hdS κ i 0 = boat
        · rw [if_pos qb]
          generalize hs2 : si (si s 74 i 0) 73 5 (gi (si s 74 i 0) 73 5 + 1) = s2
          have f2 : ∀ k j, ¬ ((k = 73 ∧ j = 5) ∨ k = 74) → gi s2 k j = gi σ k j := fun k j hk => by rw [← hs2, gi_si, if_neg (by omega)]; exact f1 k j hk
          have hk2 : hdK s2 κ H := ⟨(f2 _ _ (by omega)).trans h.1, (f2 _ _ (by omega)).trans h.2.1, fun a b ha hb => (f2 _ _ (by omega)).trans (h.2.2.1 a b ha hb), (f2 _ _ (by omega)).trans h.2.2.2.1, (f2 _ _ (by omega)).trans h.2.2.2.2⟩
          rw [e_nextsOf hN hw hH hH24 hk2 (by omega) b0 b1, Option.bind_some]
          refine ih (i + 1) f _ (by omega) (by omega) (fun j hj => ?_) ?_ (fun k j hk => by rw [gi_si, if_neg (by omega)]; exact f2 k j hk)
          · rw [gi_si]
            by_cases e : j = i
            · rw [if_pos ⟨rfl, e⟩, e]
              refine wd_congr (fun k _ => ?_)
              unfold rwB
              congr 1
              exact decide_eq_decide.mpr ⟨fun z => ⟨by omega, z, qb⟩, fun z => z.2.1⟩
            · rw [if_neg (by omega), ← hs2, gi_si, if_neg (by omega), gi_si, if_neg (by omega)]; exact h1 j (by omega)
          · rw [gi_si, if_neg (by omega), ← hs2, gi_si, if_pos ⟨rfl, rfl⟩, gi_si, if_neg (by omega), h2, m1, decide_eq_true ⟨by omega, qb⟩, show (1 : Int32) = zI 1 from rfl, zI_add]
            rfl
        · rw [if_neg qb]
          exact zero (fun k => by unfold rwB; rw [decide_eq_false (fun z => qb z.2.2), Bool.false_and]) (fun z => qb z.2)
  unfold fX4_draw
  simp only [nmM]
  obtain ⟨s', e1, e2, e3, e4⟩ := loop 24 0 N (si σ 73 5 0) (by omega) (by omega) (fun j hj => by omega) (by rw [gi_si, if_pos ⟨rfl, rfl⟩]; rfl) (fun k j hk => by rw [gi_si, if_neg (by omega)])
  exact ⟨s', e1, e2, e3, e4⟩
end RWS
