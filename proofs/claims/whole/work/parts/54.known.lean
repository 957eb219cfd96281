/-! what is known: the reference's way -/
theorem if_bI {α : Type} (b : Bool) (x y : α) : (if bI b = 0 then x else y) = if b = true then y else x := by
  cases b
  · rfl
  · rfl
theorem r_heardOf {τ : qMem} {h f : Int} (h0 : 0 ≤ h) (h1 : h ≤ 24) (f0 : 0 ≤ f) (f1 : f ≤ 2) : fX12_heardOf (zI h) (zI f) τ = some (zI (kI (τ.1 2) (80 + 3 * h + f))) := by
  unfold fX12_heardOf
  simp (disch := omega) only [zl_3, zl_80, zI_mul, zI_add, zI_ckT, zI_clamp, if_true]
  rw [kI_z]
theorem r_echoOf {τ : qMem} {h f : Int} (h0 : 0 ≤ h) (h1 : h ≤ 12) (f0 : 0 ≤ f) (f1 : f ≤ 2) : fX12_echoOf (zI h) (zI f) τ = some (zI (kI (τ.1 2) (152 + 3 * h + f))) := by
  unfold fX12_echoOf
  simp (disch := omega) only [zl_3, zl_152, zI_mul, zI_add, zI_ckT, zI_clamp, if_true]
  rw [kI_z]
theorem r_term {τ : qMem} {t : Int} (h0 : 0 ≤ t) (h1 : t ≤ 5) : fX12_term (zI t) τ = some (zI (kI (τ.1 2) (44 + t))) := by
  unfold fX12_term
  simp (disch := omega) only [zl_44, zI_add, zI_ckT, zI_clamp, if_true]
  rw [kI_z]
theorem zI_0 {x : Int} (h1 : -2147483648 ≤ x) (h2 : x < 2147483648) : (zI x = 0) = (x = 0) := by rw [zl_0, zI_eq h1 h2 (by omega) (by omega)]
theorem zI_le0 {x : Int} (h1 : -2147483648 ≤ x) (h2 : x < 2147483648) : (zI x ≤ 0) = (x ≤ 0) := by rw [zl_0, zI_le h1 h2 (by omega) (by omega)]
theorem zI_ge0 {x : Int} (h1 : -2147483648 ≤ x) (h2 : x < 2147483648) : (0 ≤ zI x) = (0 ≤ x) := by rw [zl_0, zI_le (by omega) (by omega) h1 h2]
theorem r_isTow {τ : qMem} {h x y : Int} (hT : KT (τ.1 2)) (h0 : 0 ≤ h) (h1 : h ≤ 24) (hd : 0 ≤ kI (τ.1 2) (80 + 3 * h + 2) ∧ kI (τ.1 2) (80 + 3 * h + 2) ≤ 79) (x0 : -1000 ≤ x) (x1 : x ≤ 1000) (y0 : -1000 ≤ y) (y1 : y ≤ 1000) : fX12_isTowards (zI h) (zI x) (zI y) τ = some (bI (towB (kI (τ.1 2) (80 + 3 * h + 2)) (kI (τ.1 2) 44) x y)) := by
  have t44 := hT.1
  have b8 : (x ≠ 0 ∨ y ≠ 0) → fX12_isTowards_b8 (zI h) (zI x) (zI y) τ = some (bI (towB (kI (τ.1 2) (80 + 3 * h + 2)) (kI (τ.1 2) 44) x y)) := by
    intro hne
    have hr := rose_rng x y hne
    unfold fX12_isTowards_b8 fX12_isTowards_b34
    rw [r_rose (by omega) (by omega) (by omega) (by omega) hne, Option.bind_some, show (2 : Int32) = zI 2 from rfl, r_heardOf h0 h1 (by omega) (by omega), Option.bind_some, r_turned (by omega) (by omega) (by omega) (by omega), Option.bind_some]
    have e0 : fX12_term 0 τ = some (zI (kI (τ.1 2) 44)) := r_term (t := 0) (by omega) (by omega)
    have ht : -80 ≤ turnS (roseS x y) (kI (τ.1 2) (80 + 3 * h + 2)) ∧ turnS (roseS x y) (kI (τ.1 2) (80 + 3 * h + 2)) ≤ 80 := by unfold turnS szS; omega
    rw [e0, Option.bind_some]
    simp (disch := omega) only [zI_lt]
    unfold towB
    by_cases q : kI (τ.1 2) 44 < turnS (roseS x y) (kI (τ.1 2) (80 + 3 * h + 2))
    · rw [if_pos q, decide_eq_false (by omega)]; rfl
    · rw [if_neg q, decide_eq_true ⟨hne, by omega⟩]; rfl
  unfold fX12_isTowards
  simp (disch := omega) only [zI_0]
  by_cases q : x = 0
  · rw [if_pos q]
    by_cases q2 : y = 0
    · rw [if_pos q2]
      unfold towB fX12_isTowards_b34
      rw [decide_eq_false (by omega)]; rfl
    · rw [if_neg q2]
      exact b8 (Or.inr q2)
  · rw [if_neg q]
    exact b8 (Or.inl q)
theorem sq_rng {x : Int} (x0 : -1000 ≤ x) (x1 : x ≤ 1000) : 0 ≤ x * x ∧ x * x ≤ 1000000 := by
  have h := sq_abs x
  have h1 : 0 ≤ szS x * szS x := Int.mul_nonneg (by unfold szS; omega) (by unfold szS; omega)
  have h2 : szS x * szS x ≤ 1000 * 1000 := sq_le (by unfold szS; omega) (by unfold szS; omega)
  omega
theorem r_isFar {τ : qMem} {h x y : Int} (hT : KT (τ.1 2)) (h0 : 0 ≤ h) (h1 : h ≤ 12) (hd : 0 ≤ kI (τ.1 2) (152 + 3 * h + 2) ∧ kI (τ.1 2) (152 + 3 * h + 2) ≤ 99) (x0 : -1000 ≤ x) (x1 : x ≤ 1000) (y0 : -1000 ≤ y) (y1 : y ≤ 1000) : fX12_isAsFar (zI h) (zI x) (zI y) τ = some (bI (farB (kI (τ.1 2) (152 + 3 * h + 2)) (kI (τ.1 2) 45) x y)) := by
  have t45 := hT.2.1
  have sx := sq_rng x0 x1
  have sy := sq_rng y0 y1
  have e1 : fX12_term 1 τ = some (zI (kI (τ.1 2) 45)) := r_term (t := 1) (by omega) (by omega)
  have e2 : fX12_echoOf (zI h) 2 τ = some (zI (kI (τ.1 2) (152 + 3 * h + 2))) := r_echoOf (f := 2) h0 h1 (by omega) (by omega)
  unfold fX12_isAsFar fX12_isAsFar_b52 fX12_isAsFar_b66
  rw [e1, e2]
  generalize kI (τ.1 2) (152 + 3 * h + 2) = d at *
  generalize kI (τ.1 2) 45 = o at *
  have s1 := sq_rng (x := d - o) (by omega) (by omega)
  have s2 := sq_rng (x := d + o) (by omega) (by omega)
  simp (disch := omega) only [Option.bind_some, zI_sub, zI_add, zI_mul, zI_le0, zI_lt]
  unfold farB
  by_cases q : d - o ≤ 0
  · rw [if_pos q]
    by_cases q2 : (d + o) * (d + o) < x * x + y * y
    · rw [if_pos q2, decide_eq_false (by omega)]; rfl
    · rw [if_neg q2, decide_eq_true (by omega)]; rfl
  · rw [if_neg q]
    by_cases q3 : x * x + y * y < (d - o) * (d - o)
    · rw [if_pos q3, decide_eq_false (by omega)]; rfl
    · rw [if_neg q3]
      by_cases q2 : (d + o) * (d + o) < x * x + y * y
      · rw [if_pos q2, decide_eq_false (by omega)]; rfl
      · rw [if_neg q2, decide_eq_true (by omega)]; rfl
theorem itF_h (κ : Nat → Int32) (k : Nat) (f : Int) : itF κ (false, k) f = kI κ (80 + 3 * k + f) := rfl
theorem itF_e (κ : Nat → Int32) (k : Nat) (f : Int) : itF κ (true, k) f = kI κ (152 + 3 * k + f) := rfl
theorem r_explains {N : Nat} {τ : qMem} {e : Bool} {k : Nat} {x y : Int} (hN : 200000 ≤ N) (hw : KW (τ.1 2)) (hv : validI (τ.1 2) (e, k)) (x0 : -200 ≤ x) (x1 : x ≤ 200) (y0 : -200 ≤ y) (y1 : y ≤ 200) : fX12_explains N (bI e) (zI k) (zI x) (zI y) τ = some (bI (explB (τ.1 2) (e, k) x y)) := by
  obtain ⟨kb, kt, kh, ke, _⟩ := hw
  have rr := it_rng kh ke hv
  have p0 := pos_rng (w := 0) kb rr.1.1 rr.1.2 (Or.inl rfl) rr.2.1.2
  have p1 := pos_rng (w := 1) kb rr.1.1 rr.1.2 (Or.inr rfl) rr.2.1.2
  have hb := kh.1
  have hb2 := ke.1
  have a0 := r_at (τ := τ) (w := 0) hN kb rr.1.1 rr.1.2 rr.2.1.1 rr.2.1.2 (Or.inl rfl)
  have a1 := r_at (τ := τ) (w := 1) hN kb rr.1.1 rr.1.2 rr.2.1.1 rr.2.1.2 (Or.inr rfl)
  unfold fX12_explains fX12_explains_b19 fX12_explains_b40
  unfold explB wayB
  simp only [if_bI]
  rcases hv with ⟨ee, kk⟩ | ⟨ee, kk⟩
  · simp only at ee kk
    subst ee
    simp only [Bool.false_eq_true, if_false]
    have g0 : fX12_heardOf (zI k) 0 τ = some (zI (itF (τ.1 2) (false, k) 0)) := r_heardOf (f := 0) (by omega) (by omega) (by omega) (by omega)
    have g1 : fX12_heardOf (zI k) 1 τ = some (zI (itF (τ.1 2) (false, k) 1)) := r_heardOf (f := 1) (by omega) (by omega) (by omega) (by omega)
    rw [g0, Option.bind_some, g1, Option.bind_some]
    rw [show (0 : Int32) = zI 0 from rfl, a0, Option.bind_some, show (1 : Int32) = zI 1 from rfl, a1, Option.bind_some, zI_sub, zI_sub, r_isTow kt (by omega) (by omega) ⟨rr.2.2.1.1, rr.2.2.2 rfl⟩ (by omega) (by omega) (by omega) (by omega), Option.bind_some]
    exact if_pos (bI_or _)
  · simp only at ee kk
    subst ee
    simp only [if_true]
    have g0 : fX12_echoOf (zI k) 0 τ = some (zI (itF (τ.1 2) (true, k) 0)) := r_echoOf (f := 0) (by omega) (by omega) (by omega) (by omega)
    have g1 : fX12_echoOf (zI k) 1 τ = some (zI (itF (τ.1 2) (true, k) 1)) := r_echoOf (f := 1) (by omega) (by omega) (by omega) (by omega)
    rw [g0, Option.bind_some, g1, Option.bind_some]
    rw [show (0 : Int32) = zI 0 from rfl, a0, Option.bind_some, show (1 : Int32) = zI 1 from rfl, a1, Option.bind_some, zI_sub, zI_sub, r_isFar kt (by omega) (by omega) ⟨rr.2.2.1.1, rr.2.2.1.2⟩ (by omega) (by omega) (by omega) (by omega), Option.bind_some]
    exact if_pos (bI_or _)
theorem accB {A : Prop} {acc b : Bool} (h : acc = true ↔ A) {B : Prop} (hb : b = true ↔ B) : ((acc || b) = true) ↔ (A ∨ B) := by
  rw [Bool.or_eq_true, h, hb]
def shoalP (κ : Nat → Int32) (it : Bool × Nat) (s : Int) : Prop := (kI κ (238 + 5 * s + 3) ≤ itF κ it 1 ∧ itF κ it 1 ≤ kI κ (238 + 5 * s + 4)) ∧
    ∃ x y : Int, kI κ (238 + 5 * s) - kI κ (238 + 5 * s + 2) ≤ x ∧ x ≤ kI κ (238 + 5 * s) + kI κ (238 + 5 * s + 2) ∧ kI κ (238 + 5 * s + 1) - kI κ (238 + 5 * s + 2) ≤ y ∧ y ≤ kI κ (238 + 5 * s + 1) + kI κ (238 + 5 * s + 2) ∧ explB κ it x y = true
theorem ex_succ {P : Int → Prop} {i : Int} (h : 0 ≤ i) : (∃ w : Int, 0 ≤ w ∧ w < i + 1 ∧ P w) ↔ ((∃ w : Int, 0 ≤ w ∧ w < i ∧ P w) ∨ P i) := by
  constructor
  · rintro ⟨w, h1, h2, h3⟩
    by_cases q : w = i
    · subst q; exact Or.inr h3
    · exact Or.inl ⟨w, h1, by omega, h3⟩
  · rintro (⟨w, h1, h2, h3⟩ | h3)
    · exact ⟨w, h1, by omega, h3⟩
    · exact ⟨i, h, by omega, h3⟩
theorem r_isKnown {N : Nat} {τ : qMem} {e : Bool} {k : Nat} (hN : 200000 ≤ N) (hw : KW (τ.1 2)) (hv : validI (τ.1 2) (e, k)) : fX12_isKnown N (bI e) (zI k) τ = some (bI (knownB (τ.1 2) (e, k))) := by
  have hw0 := hw
  obtain ⟨kb, kt, kh, ke, kr, ks, _⟩ := hw
  have rr := it_rng kh ke hv
  have hb := kh.1
  have hb2 := ke.1
  have hwn := kr.1
  have hsn := ks.1
  have hbell : (if bI e = 0 then (fX12_heardOf (zI k) 1 τ) else (fX12_echoOf (zI k) 1 τ)) = some (zI (itF (τ.1 2) (e, k) 1)) := by
    rcases hv with ⟨ee, kk⟩ | ⟨ee, kk⟩
    · simp only at ee kk
      subst ee
      exact r_heardOf (f := 1) (by omega) (by omega) (by omega) (by omega)
    · simp only at ee kk
      subst ee
      exact r_echoOf (f := 1) (by omega) (by omega) (by omega) (by omega)
  have g302 : gi τ 2 (Int.toNat 302) = zI (kI (τ.1 2) 302) := (zI_of _).symm
  have g308 : gi τ 2 (Int.toNat 308) = zI (kI (τ.1 2) 308) := (zI_of _).symm
  suffices hs : Ho (fX12_isKnown N (bI e) (zI k) τ) (fun r => r = bI (knownB (τ.1 2) (e, k))) by
    obtain ⟨r, e1, rfl⟩ := hs
    exact e1
  unfold fX12_isKnown
  rw [show (fX12_isKnown_l5 N τ N (bI e) (zI k) 0 0) = fX12_isKnown_l5 N τ N (bI e) (zI k) (bI false) (zI 0) from rfl]
  refine lp_for (S := Bool) (R := Int32) (fun n i acc => fX12_isKnown_l5 N τ n (bI e) (zI k) (bI acc) (zI i)) (fun i acc => 0 ≤ i ∧ (acc = true ↔ ∃ w : Int, 0 ≤ w ∧ w < i ∧ explB (τ.1 2) (e, k) (kI (τ.1 2) (188 + 2 * w)) (kI (τ.1 2) (188 + 2 * w + 1)) = true)) _ (kI (τ.1 2) 302) ?_ ?_ N 0 false (by omega) (by omega) ?_
  · intro n acc ⟨_, hacc⟩
    show Ho (fX12_isKnown_s5 N _ _ _ _ _ _) _
    unfold fX12_isKnown_s5
    have c302 : (ck (302 : Int32) 1112 = true) = True := by decide
    have z302 : (302 : Int32).toNatClampNeg = Int.toNat 302 := rfl
    simp only [c302, if_true, z302, g302]
    simp (disch := omega) only [zI_le]
    rw [if_pos (by omega)]
    have hsh : Ho (fX12_isKnown_b90 N (bI e) (zI k) (bI acc) (zI (itF (τ.1 2) (e, k) 1)) τ) (fun r => r = bI (knownB (τ.1 2) (e, k))) := by
      unfold fX12_isKnown_b90
      rw [show (0 : Int32) = zI 0 from rfl]
      refine lp_for (S := Bool) (R := Int32) (fun n i acc => fX12_isKnown_l95 N τ n (bI e) (zI k) (bI acc) (zI (itF (τ.1 2) (e, k) 1)) (zI i)) (fun i ac => 0 ≤ i ∧ (ac = true ↔ ((∃ w : Int, 0 ≤ w ∧ w < kI (τ.1 2) 302 ∧ explB (τ.1 2) (e, k) (kI (τ.1 2) (188 + 2 * w)) (kI (τ.1 2) (188 + 2 * w + 1)) = true) ∨ ∃ s : Int, 0 ≤ s ∧ s < i ∧ shoalP (τ.1 2) (e, k) s))) _ (kI (τ.1 2) 308) ?_ ?_ N 0 acc (by omega) (by omega) ?_
      · intro n ac ⟨_, hac⟩
        show Ho (fX12_isKnown_s95 N _ _ _ _ _ _ _) _
        unfold fX12_isKnown_s95
        have c308 : (ck (308 : Int32) 1112 = true) = True := by decide
        have z308 : (308 : Int32).toNatClampNeg = Int.toNat 308 := rfl
        simp only [c308, if_true, z308, g308]
        simp (disch := omega) only [zI_le]
        rw [if_pos (by omega), if_pos (bI_or _)]
        refine Ho_some ?_
        congr 1
        unfold knownB
        cases ac
        · exact (dcB_f (fun z => by have := hac.mpr z; cases this)).symm
        · exact (dcB_t (hac.mp rfl)).symm
      · intro n i ac hi ⟨i0, hac⟩ hc
        show Ho (fX12_isKnown_s95 N _ _ _ _ _ _ _) _
        obtain ⟨y1, y2, y3, y4, y5⟩ := ks.2 i i0 hi
        unfold fX12_isKnown_s95 fX12_isKnown_b251
        have c308 : (ck (308 : Int32) 1112 = true) = True := by decide
        have z308 : (308 : Int32).toNatClampNeg = Int.toNat 308 := rfl
        simp only [c308, if_true, z308, g308]
        simp (disch := omega) only [zl_1, zl_2, zl_3, zl_4, zl_5, zl_238, zI_mul, zI_add, zI_ckT, zI_clamp, if_true, kI_z, e_in, Option.bind_some, nmI, zI_le, zI_sub]
        rw [if_neg (by omega)]
        by_cases q : kI (τ.1 2) (238 + 5 * i + 3) ≤ itF (τ.1 2) (e, k) 1 ∧ itF (τ.1 2) (e, k) 1 ≤ kI (τ.1 2) (238 + 5 * i + 4)
        · rw [decide_eq_true q, bI_t, if_neg (by decide)]
          refine lp_for (S := Bool) (R := Int32) (fun n' x acc => fX12_isKnown_l170 N (fX12_isKnown_l95 N τ n) τ n' (bI e) (zI k) (bI acc) (zI (itF (τ.1 2) (e, k) 1)) (zI i) (zI (238 + 5 * i)) (zI (kI (τ.1 2) (238 + 5 * i + 2))) (zI x)) (fun x ad => kI (τ.1 2) (238 + 5 * i) - kI (τ.1 2) (238 + 5 * i + 2) ≤ x ∧ (ad = true ↔ (ac = true ∨ ∃ x' y' : Int, kI (τ.1 2) (238 + 5 * i) - kI (τ.1 2) (238 + 5 * i + 2) ≤ x' ∧ x' < x ∧ kI (τ.1 2) (238 + 5 * i + 1) - kI (τ.1 2) (238 + 5 * i + 2) ≤ y' ∧ y' ≤ kI (τ.1 2) (238 + 5 * i + 1) + kI (τ.1 2) (238 + 5 * i + 2) ∧ explB (τ.1 2) (e, k) x' y' = true))) _ (kI (τ.1 2) (238 + 5 * i) + kI (τ.1 2) (238 + 5 * i + 2) + 1) ?_ ?_ N _ ac (by omega) (by omega) ?_
          · intro n' ad ⟨_, had⟩
            show Ho (fX12_isKnown_s170 N _ _ _ _ _ _ _ _ _ _ _) _
            unfold fX12_isKnown_s170 fX12_isKnown_b251
            simp (disch := omega) only [zl_1, zI_ckT, zI_clamp, if_true, kI_z, zI_add, zI_lt]
            rw [if_pos (by omega)]
            refine hc ad ⟨by omega, ?_⟩
            rw [had, hac, ex_succ i0, or_assoc]
            refine or_congr Iff.rfl (or_congr Iff.rfl ?_)
            unfold shoalP
            constructor
            · rintro ⟨x, y, h1, h2, h3, h4, h5⟩
              exact ⟨q, x, y, h1, by omega, h3, h4, h5⟩
            · rintro ⟨_, x, y, h1, h2, h3, h4, h5⟩
              exact ⟨x, y, h1, by omega, h3, h4, h5⟩
          · intro n' x ad hx ⟨x0, had⟩ hc2
            show Ho (fX12_isKnown_s170 N _ _ _ _ _ _ _ _ _ _ _) _
            unfold fX12_isKnown_s170
            simp (disch := omega) only [zl_1, zI_ckT, zI_clamp, if_true, kI_z, zI_add, zI_lt, zI_sub, nmI]
            rw [if_neg (by omega)]
            refine lp_for (S := Bool) (R := Int32) (fun n'' y acc => fX12_isKnown_l199 N (fX12_isKnown_l95 N τ n) (fX12_isKnown_l170 N (fX12_isKnown_l95 N τ n) τ n') τ n'' (bI e) (zI k) (bI acc) (zI (itF (τ.1 2) (e, k) 1)) (zI i) (zI (238 + 5 * i)) (zI (kI (τ.1 2) (238 + 5 * i + 2))) (zI x) (zI y)) (fun y ae => kI (τ.1 2) (238 + 5 * i + 1) - kI (τ.1 2) (238 + 5 * i + 2) ≤ y ∧ (ae = true ↔ (ad = true ∨ ∃ y' : Int, kI (τ.1 2) (238 + 5 * i + 1) - kI (τ.1 2) (238 + 5 * i + 2) ≤ y' ∧ y' < y ∧ explB (τ.1 2) (e, k) x y' = true))) _ (kI (τ.1 2) (238 + 5 * i + 1) + kI (τ.1 2) (238 + 5 * i + 2) + 1) ?_ ?_ N _ ad (by omega) (by omega) ?_
            · intro n'' ae ⟨_, hae⟩
              show Ho (fX12_isKnown_s199 N _ _ _ _ _ _ _ _ _ _ _ _ _) _
              unfold fX12_isKnown_s199
              simp (disch := omega) only [zl_1, zI_ckT, zI_clamp, if_true, kI_z, zI_add, zI_lt]
              rw [if_pos (by omega)]
              refine hc2 ae ⟨by omega, ?_⟩
              rw [hae, had, or_assoc]
              refine or_congr Iff.rfl ?_
              constructor
              · rintro (⟨x', y', h1, h2, h3, h4, h5⟩ | ⟨y', h1, h2, h3⟩)
                · exact ⟨x', y', h1, by omega, h3, h4, h5⟩
                · exact ⟨x, y', x0, by omega, h1, by omega, h3⟩
              · rintro ⟨x', y', h1, h2, h3, h4, h5⟩
                by_cases qx : x' = x
                · subst qx; exact Or.inr ⟨y', h3, by omega, h5⟩
                · exact Or.inl ⟨x', y', h1, by omega, h3, h4, h5⟩
            · intro n'' y ae hy ⟨y0, hae⟩ hc3
              show Ho (fX12_isKnown_s199 N _ _ _ _ _ _ _ _ _ _ _ _ _) _
              unfold fX12_isKnown_s199 fX12_isKnown_b233 fX12_isKnown_b238
              have cc1 : (ck (zI (238 + 5 * i) + 1) 1112 = true) = True := by
                rw [show (1 : Int32) = zI 1 from rfl, zI_add]
                exact zI_ckT (by omega) (by omega) (by omega)
              have cc2 : ((gi τ 2 (zI (238 + 5 * i) + 1).toNatClampNeg) + zI (kI (τ.1 2) (238 + 5 * i + 2)) < zI y) = False := by
                rw [show (1 : Int32) = zI 1 from rfl, zI_add, zI_clamp (by omega) (by omega), kI_z, zI_add, zI_lt (by omega) (by omega) (by omega) (by omega)]
                exact eq_false (by omega)
              have cc3 : zI y + 1 = zI (y + 1) := zI_add y 1
              have hex := r_explains (τ := τ) (e := e) (k := k) (x := x) (y := y) hN hw0 hv (by omega) (by omega) (by omega) (by omega)
              simp only [cc1, cc2, if_true, if_false, cc3]
              have fin : ∀ b : Bool, (b = true ↔ (ae = true ∨ explB (τ.1 2) (e, k) x y = true)) → Ho (fX12_isKnown_l199 N (fX12_isKnown_l95 N τ n) (fX12_isKnown_l170 N (fX12_isKnown_l95 N τ n) τ n') τ n'' (bI e) (zI k) (bI b) (zI (itF (τ.1 2) (e, k) 1)) (zI i) (zI (238 + 5 * i)) (zI (kI (τ.1 2) (238 + 5 * i + 2))) (zI x) (zI (y + 1))) (fun r => r = bI (knownB (τ.1 2) (e, k))) := by
                intro b hb
                refine hc3 b ⟨by omega, ?_⟩
                rw [hb, hae, or_assoc]
                refine or_congr Iff.rfl ?_
                constructor
                · rintro (⟨y', h1, h2, h3⟩ | h3)
                  · exact ⟨y', h1, by omega, h3⟩
                  · exact ⟨y, y0, by omega, h3⟩
                · rintro ⟨y', h1, h2, h3⟩
                  by_cases qy : y' = y
                  · subst qy; exact Or.inr h3
                  · exact Or.inl ⟨y', h1, by omega, h3⟩
              cases ae
              · rw [bI_f, if_pos rfl, hex, Option.bind_some]
                cases hx2 : explB (τ.1 2) (e, k) x y
                · rw [bI_f, if_pos rfl]
                  exact fin false (by rw [hx2]; simp)
                · rw [bI_t, if_neg (by decide)]
                  exact fin true (by rw [hx2]; simp)
              · rw [bI_t, if_neg (by decide)]
                exact fin true (by simp)
            · refine ⟨by omega, ?_⟩
              constructor
              · intro h; exact Or.inl h
              · rintro (h | ⟨y', h1, h2, _⟩)
                · exact h
                · omega
          · refine ⟨by omega, ?_⟩
            constructor
            · intro h; exact Or.inl h
            · rintro (h | ⟨x', y', h1, h2, _⟩)
              · exact h
              · omega
        · rw [decide_eq_false q, bI_f, if_pos rfl]
          refine hc ac ⟨by omega, ?_⟩
          rw [hac, ex_succ i0, ← or_assoc]
          constructor
          · intro h; exact Or.inl h
          · rintro (h | h)
            · exact h
            · exact absurd h.1 q
      · refine ⟨by omega, ?_⟩
        rw [hacc]
        constructor
        · intro h; exact Or.inl h
        · rintro (h | ⟨s, h1, h2, _⟩)
          · exact h
          · omega
    rw [show (if bI e = 0 then (fX12_heardOf (zI k) 1 τ).bind fun y1 => fX12_isKnown_b90 N (bI e) (zI k) (bI acc) y1 τ else (fX12_echoOf (zI k) 1 τ).bind fun y2 => fX12_isKnown_b90 N (bI e) (zI k) (bI acc) y2 τ) = (if bI e = 0 then (fX12_heardOf (zI k) 1 τ) else (fX12_echoOf (zI k) 1 τ)).bind fun y1 => fX12_isKnown_b90 N (bI e) (zI k) (bI acc) y1 τ by split <;> rfl, hbell, Option.bind_some]
    exact hsh
  · intro n i acc hi ⟨i0, hacc⟩ hc
    show Ho (fX12_isKnown_s5 N _ _ _ _ _ _) _
    obtain ⟨y1, y2⟩ := kr.2 i i0 hi
    unfold fX12_isKnown_s5 fX12_isKnown_b59 fX12_isKnown_b64
    have c302 : (ck (302 : Int32) 1112 = true) = True := by decide
    have z302 : (302 : Int32).toNatClampNeg = Int.toNat 302 := rfl
    have cc1 : (ck (188 + 2 * zI i) 1112 = true) = True := by
      rw [show (188 : Int32) + 2 * zI i = zI (188 + 2 * i) by rw [zl_188, zl_2, zI_mul, zI_add]]
      exact zI_ckT (by omega) (by omega) (by omega)
    have cc2 : (ck (188 + 2 * zI i + 1) 1112 = true) = True := by
      rw [show (188 : Int32) + 2 * zI i + 1 = zI (188 + 2 * i + 1) by rw [zl_188, zl_2, zl_1, zI_mul, zI_add, zI_add]]
      exact zI_ckT (by omega) (by omega) (by omega)
    have gg1 : gi τ 2 (188 + 2 * zI i).toNatClampNeg = zI (kI (τ.1 2) (188 + 2 * i)) := by
      rw [show (188 : Int32) + 2 * zI i = zI (188 + 2 * i) by rw [zl_188, zl_2, zI_mul, zI_add], zI_clamp (by omega) (by omega), kI_z]
    have gg2 : gi τ 2 (188 + 2 * zI i + 1).toNatClampNeg = zI (kI (τ.1 2) (188 + 2 * i + 1)) := by
      rw [show (188 : Int32) + 2 * zI i + 1 = zI (188 + 2 * i + 1) by rw [zl_188, zl_2, zl_1, zI_mul, zI_add, zI_add], zI_clamp (by omega) (by omega), kI_z]
    have cc3 : zI i + 1 = zI (i + 1) := zI_add i 1
    have cc4 : (zI (kI (τ.1 2) 302) ≤ zI i) = False := by
      rw [zI_le (by omega) (by omega) (by omega) (by omega)]
      exact eq_false (by omega)
    simp only [c302, if_true, z302, g302, cc1, cc2, gg1, gg2, cc3, cc4, if_false]
    have hex := r_explains (τ := τ) (e := e) (k := k) (x := kI (τ.1 2) (188 + 2 * i)) (y := kI (τ.1 2) (188 + 2 * i + 1)) hN hw0 hv (by omega) (by omega) (by omega) (by omega)
    have fin : ∀ b : Bool, (b = true ↔ (acc = true ∨ explB (τ.1 2) (e, k) (kI (τ.1 2) (188 + 2 * i)) (kI (τ.1 2) (188 + 2 * i + 1)) = true)) → Ho (fX12_isKnown_l5 N τ n (bI e) (zI k) (bI b) (zI (i + 1))) (fun r => r = bI (knownB (τ.1 2) (e, k))) := by
      intro b hb
      refine hc b ⟨by omega, ?_⟩
      rw [hb, hacc, ex_succ i0]
    cases acc
    · rw [bI_f, if_pos rfl, hex, Option.bind_some]
      cases hx2 : explB (τ.1 2) (e, k) (kI (τ.1 2) (188 + 2 * i)) (kI (τ.1 2) (188 + 2 * i + 1))
      · rw [bI_f, if_pos rfl]
        exact fin false (by rw [hx2]; simp)
      · rw [bI_t, if_neg (by decide)]
        exact fin true (by rw [hx2]; simp)
    · rw [bI_t, if_neg (by decide)]
      exact fin true (by simp)
  · refine ⟨by omega, ?_⟩
    constructor
    · intro h; cases h
    · rintro ⟨w, h1, h2, _⟩
      omega
