/-! sound: the reference's -/
theorem r_slow {τ : qMem} {κ : Nat → Int32} {d : Int} (hκ : τ.1 2 = κ) (hT : KT κ) (d0 : 0 ≤ d) (d1 : d ≤ 9) : fX12_slowOf (zI d) τ = some (zI (slowS κ d)) := by
  have dr := hT.2.2.2.2.2.2
  have g : gi τ 2 (Int.toNat 310) = zI (kI κ 310) := by rw [← hκ]; exact (zI_of _).symm
  unfold fX12_slowOf
  simp (disch := omega) only [zl_10, zl_50, zl_310, zI_ckT, zI_clamp, if_true, g, zI_mul, zI_add]
  rw [kI_z, hκ]
  rfl
def carP (m : Nat → Nat → Int32) (P : Int → Int → Int → Bool) : Prop := ∀ e t r : Int, 0 ≤ e → e ≤ 9 → 0 ≤ t → t ≤ 9 → 0 ≤ r → r ≤ 200 → m 5 ((10 * e + t) * 201 + r).toNat = bI (P e t r)
theorem ray_next {N : Nat} {c8 : Int32 → Int32 → Int32 → Int32 → qMem → Option qMem} {τ : qMem} {κ : Nat → Int32} {v1 : Int32} {dp sl i : Int} (hκ : τ.1 2 = κ) (hT : KT κ) (d0 : 0 ≤ dp) (d1 : dp ≤ 9) (s0 : -2 ≤ sl) (s1 : sl ≤ 2) :
    (if zI dp = 9 then (fX12_ray_b80 N c8 v1 (zI dp) (zI sl) (zI i) (zI dp) τ) else (fX12_ray_b80 N c8 v1 (zI dp) (zI sl) (zI i) (zI dp + 1) τ)) = c8 v1 (zI (rayT (dp, sl) (bendS κ dp)).1) (zI (rayT (dp, sl) (bendS κ dp)).2) (zI (i + 1)) τ := by
  have h154 : ∀ u : Int, -2 ≤ u → u ≤ 2 → fX12_ray_b154 N c8 v1 (zI dp) (zI i) (zI u) τ = c8 v1 (zI (if dp + u < 0 then -(dp + u) else if 9 < dp + u then 18 - (dp + u) else dp + u)) (zI (if dp + u < 0 then -u else if 9 < dp + u then -u else u)) (zI (i + 1)) τ := by
    intro u u0 u1
    unfold fX12_ray_b154 fX12_ray_b187 fX12_ray_b193
    simp (disch := omega) only [zl_0, zl_1, zl_9, zl_18, zI_add, zI_sub, zI_neg, e_in, Option.bind_some, bI_00, decide_eq_false_iff_not, zI_le]
    by_cases q : dp + u < 0
    · rw [if_pos (by omega), if_neg (by omega), if_pos q, if_pos q]
    · by_cases q2 : 9 < dp + u
      · rw [if_pos (by omega), if_pos (by omega), if_neg q, if_neg q, if_pos q2, if_pos q2]
      · rw [if_neg (by omega), if_neg q, if_neg q, if_neg q2, if_neg q2]
  have h127 : ∀ b : Int, -1 ≤ b → b ≤ 1 → fX12_ray_b127 N c8 v1 (zI dp) (zI i) (zI sl) (zI b) τ = c8 v1 (zI (rayT (dp, sl) b).1) (zI (rayT (dp, sl) b).2) (zI (i + 1)) τ := by
    intro b b0 b1
    have e : fX12_ray_b127 N c8 v1 (zI dp) (zI i) (zI sl) (zI b) τ = fX12_ray_b154 N c8 v1 (zI dp) (zI i) (zI (max (-2) (min 2 (sl + b)))) τ := by
      unfold fX12_ray_b127
      simp (disch := omega) only [zl_2, zI_add, zI_neg, zI_le]
      by_cases q : sl + b ≤ 2
      · rw [if_pos q]
        by_cases q2 : -2 ≤ sl + b
        · rw [if_pos q2, show max (-2) (min 2 (sl + b)) = sl + b by omega]
        · rw [if_neg q2, show max (-2) (min 2 (sl + b)) = -2 by omega]
      · rw [if_neg q, show max (-2) (min 2 (sl + b)) = 2 by omega]
    rw [e, h154 _ (by omega) (by omega)]
    unfold rayT
    simp only
    by_cases q : dp + max (-2) (min 2 (sl + b)) < 0
    · simp only [q, if_true]
    · by_cases q2 : 9 < dp + max (-2) (min 2 (sl + b))
      · simp only [q, q2, if_true, if_false]
      · simp only [q, q2, if_false]
  have h97 : ∀ (be ab : Int), 0 ≤ ab → ab ≤ 9 → 0 ≤ be → be ≤ 9 → fX12_ray_b97 N c8 v1 (zI dp) (zI sl) (zI i) (zI (slowS κ be)) (zI ab) τ = c8 v1 (zI (rayT (dp, sl) (if slowS κ ab < slowS κ be then 1 else if slowS κ be < slowS κ ab then -1 else 0)).1) (zI (rayT (dp, sl) (if slowS κ ab < slowS κ be then 1 else if slowS κ be < slowS κ ab then -1 else 0)).2) (zI (i + 1)) τ := by
    intro be ab a0 a1 b0 b1
    unfold fX12_ray_b97
    rw [r_slow hκ hT a0 a1, Option.bind_some]
    have lo1 : -2147483648 ≤ slowS κ ab := kI_lo _ _
    have hi1 : slowS κ ab < 2147483648 := kI_hi _ _
    have lo2 : -2147483648 ≤ slowS κ be := kI_lo _ _
    have hi2 : slowS κ be < 2147483648 := kI_hi _ _
    simp (disch := omega) only [zl_0, zl_1, zI_neg, zI_le]
    by_cases q : slowS κ ab < slowS κ be
    · rw [if_neg (by omega), h127 _ (by omega) (by omega), if_pos q]
    · by_cases q2 : slowS κ be < slowS κ ab
      · rw [if_pos (by omega), if_neg (by omega), h127 _ (by omega) (by omega), if_neg q, if_pos q2]
      · rw [if_pos (by omega), if_pos (by omega), h127 _ (by omega) (by omega), if_neg q, if_neg q2]
  have h80 : ∀ be : Int, 0 ≤ be → be ≤ 9 → be = min (dp + 1) 9 → fX12_ray_b80 N c8 v1 (zI dp) (zI sl) (zI i) (zI be) τ = c8 v1 (zI (rayT (dp, sl) (bendS κ dp)).1) (zI (rayT (dp, sl) (bendS κ dp)).2) (zI (i + 1)) τ := by
    intro be b0 b1 hb
    unfold fX12_ray_b80
    rw [r_slow hκ hT b0 b1, Option.bind_some]
    simp (disch := omega) only [zl_0, zl_1, zI_sub, zI_eq]
    unfold bendS
    by_cases q : dp = 0
    · rw [if_pos q, h97 _ _ d0 d1 b0 b1, hb, show max (dp - 1) 0 = dp by omega]
    · rw [if_neg q, h97 _ _ (by omega) (by omega) b0 b1, hb, show max (dp - 1) 0 = dp - 1 by omega]
  simp (disch := omega) only [zl_1, zl_9, zI_add, zI_eq]
  by_cases q : dp = 9
  · rw [if_pos q, h80 dp d0 d1 (by omega)]
  · rw [if_neg q, h80 (dp + 1) (by omega) (by omega) (by omega)]
theorem r_ray {N : Nat} {τ : qMem} {κ : Nat → Int32} {d s : Int} {P : Int → Int → Int → Bool} (hN : 200000 ≤ N) (hκ : τ.1 2 = κ) (hT : KT κ) (d0 : 0 ≤ d) (d1 : d ≤ 9) (s0 : -2 ≤ s) (s1 : s ≤ 2) (hP : carP τ.1 P) :
    Ho (fX12_ray N (zI d) (zI s) τ) (fun t => carP t.1 (fun e x r => P e x r || (decide (e = d) && nearB (rayS κ d s r.toNat).1 x)) ∧ ∀ k j, k ≠ 5 → gi t k j = gi τ k j) := by
  have hr : ∀ n : Nat, (0 ≤ (rayS κ d s n).1 ∧ (rayS κ d s n).1 ≤ 9) ∧ (-2 ≤ (rayS κ d s n).2 ∧ (rayS κ d s n).2 ≤ 2) := fun n => rayS_rng ⟨d0, d1⟩ ⟨s0, s1⟩ n
  unfold fX12_ray
  rw [show (0 : Int32) = zI 0 from rfl]
  refine lp_for (S := Int × Int × qMem) (R := qMem) (fun n i p => fX12_ray_l8 N n (zI d) (zI p.1) (zI p.2.1) (zI i) p.2.2) (fun i p => 0 ≤ i ∧ (p.1, p.2.1) = rayS κ d s i.toNat ∧ carP p.2.2.1 (fun e x r => P e x r || (decide (e = d ∧ r < i) && nearB (rayS κ d s r.toNat).1 x)) ∧ ∀ k j, k ≠ 5 → gi p.2.2 k j = gi τ k j) _ 201 ?_ ?_ N 0 (d, s, τ) (by omega) (by omega) ?_
  · intro n p ⟨_, e1, e2, e3⟩
    show Ho (fX12_ray_s8 N _ _ _ _ _ _) _
    unfold fX12_ray_s8
    simp (disch := omega) only [zl_201, zI_le]
    rw [if_pos (by omega)]
    refine Ho_some ⟨fun e x r a1 a2 a3 a4 a5 a6 => ?_, e3⟩
    rw [e2 e x r a1 a2 a3 a4 a5 a6]
    dsimp only
    by_cases q : e = d
    · rw [decide_eq_true (show e = d ∧ r < 201 by omega), decide_eq_true q]
    · rw [decide_eq_false (show ¬ (e = d ∧ r < 201) by omega), decide_eq_false q]
  · intro n i p hi ⟨i0, e1, e2, e3⟩ hc
    obtain ⟨dp, sl, ρ⟩ := p
    simp only at e1 e2 e3
    have hri := hr i.toNat
    rw [← e1] at hri
    simp only at hri
    show Ho (fX12_ray_s8 N _ _ _ _ _ _) _
    unfold fX12_ray_s8
    simp (disch := omega) only [zl_201, zI_le, zl_1, zI_sub]
    rw [if_neg (by omega)]
    refine lp_for (S := qMem) (R := qMem) (fun n' t p => fX12_ray_l21 N (fX12_ray_l8 N n) n' (zI d) (zI dp) (zI sl) (zI i) (zI t) p) (fun t p => dp - 1 ≤ t ∧ carP p.1 (fun e x r => P e x r || (decide (e = d ∧ r < i) && nearB (rayS κ d s r.toNat).1 x) || decide (e = d ∧ r = i ∧ dp - 1 ≤ x ∧ x < t)) ∧ ∀ k j, k ≠ 5 → gi p k j = gi τ k j) _ (dp + 2) ?_ ?_ N (dp - 1) ρ (by omega) (by omega) ?_
    · intro n' ρ' ⟨_, g1, g2⟩
      show Ho (fX12_ray_s21 N _ _ _ _ _ _ _ _) _
      unfold fX12_ray_s21
      have c1 : (zI dp + 1 < zI (dp + 2)) = True := by
        simp (disch := omega) only [zl_1, zI_add, zI_lt]
        apply propext
        constructor
        · intro _; trivial
        · intro _; omega
      simp only [c1, if_true]
      have hκ' : ρ'.1 2 = κ := by rw [← hκ]; exact funext fun j => g2 2 j (by omega)
      rw [ray_next hκ' hT hri.1.1 hri.1.2 hri.2.1 hri.2.2]
      refine hc ((rayT (dp, sl) (bendS κ dp)).1, (rayT (dp, sl) (bendS κ dp)).2, ρ') ⟨by omega, ?_, fun e x r a1 a2 a3 a4 a5 a6 => ?_, g2⟩
      · rw [show (i + 1).toNat = i.toNat + 1 by omega, rayS, ← e1]
      · show ρ'.1 5 _ = _
        rw [g1 e x r a1 a2 a3 a4 a5 a6]
        dsimp only
        congr 1
        by_cases q : e = d ∧ r = i
        · have e5 : (rayS κ d s r.toNat).1 = dp := by rw [q.2, ← e1]
          rw [decide_eq_false (show ¬ (e = d ∧ r < i) by omega), decide_eq_true (show e = d ∧ r < i + 1 by omega), e5]
          unfold nearB
          simp only [Bool.false_and, Bool.or_false, Bool.true_and]
          congr 1
          exact decide_eq_decide.mpr (by omega)
        · rw [decide_eq_false (show ¬ (e = d ∧ r = i ∧ dp - 1 ≤ x ∧ x < dp + 2) by omega), Bool.or_false]
          congr 2
          exact decide_eq_decide.mpr (by omega)
    · intro n' t ρ' ht ⟨t0, g1, g2⟩ hc2
      show Ho (fX12_ray_s21 N _ _ _ _ _ _ _ _) _
      unfold fX12_ray_s21 fX12_ray_b60
      have c1 : (zI dp + 1 < zI t) = False := by
        simp (disch := omega) only [zl_1, zI_add, zI_lt]
        apply propext
        constructor
        · intro h; omega
        · intro h; exact h.elim
      simp only [c1, if_false]
      simp (disch := omega) only [zl_0, zl_1, zl_9, zl_10, zl_201, e_in, Option.bind_some, bI_00, decide_eq_false_iff_not, zI_add, zI_mul]
      by_cases q : 0 ≤ t ∧ t ≤ 9
      · rw [if_neg (by omega)]
        simp (disch := omega) only [zI_ckT, zI_clamp, if_true, nmM]
        have eb : vp_nar .boolean (zI 1) = bI true := rfl
        rw [eb]
        refine hc2 _ ⟨by omega, fun e x r a1 a2 a3 a4 a5 a6 => ?_, fun k j hk => ?_⟩
        · show gi (si ρ' 5 _ _) 5 _ = _
          rw [gi_si]
          dsimp only
          by_cases q2 : e = d ∧ x = t ∧ r = i
          · rw [if_pos (by omega), decide_eq_true (show e = d ∧ r = i ∧ dp - 1 ≤ x ∧ x < t + 1 by omega), Bool.or_true]
          · rw [if_neg (by omega)]
            refine (g1 e x r a1 a2 a3 a4 a5 a6).trans ?_
            dsimp only
            congr 2
            exact decide_eq_decide.mpr (by omega)
        · rw [gi_si, if_neg (by omega)]; exact g2 k j hk
      · rw [if_pos q]
        refine hc2 _ ⟨by omega, fun e x r a1 a2 a3 a4 a5 a6 => ?_, g2⟩
        refine (g1 e x r a1 a2 a3 a4 a5 a6).trans ?_
        dsimp only
        congr 2
        exact decide_eq_decide.mpr (by omega)
    · refine ⟨by omega, fun e x r a1 a2 a3 a4 a5 a6 => ?_, e3⟩
      rw [e2 e x r a1 a2 a3 a4 a5 a6]
      dsimp only
      rw [decide_eq_false (show ¬ (e = d ∧ r = i ∧ dp - 1 ≤ x ∧ x < dp - 1) by omega), Bool.or_false]
  · refine ⟨by omega, rfl, fun e x r a1 a2 a3 a4 a5 a6 => ?_, fun _ _ _ => rfl⟩
    show τ.1 5 _ = _
    rw [hP e x r a1 a2 a3 a4 a5 a6]
    dsimp only
    rw [decide_eq_false (show ¬ (e = d ∧ r < 0) by omega), Bool.false_and, Bool.or_false]
def reachM (κ : Nat → Int32) (d t r : Int) : Nat → Bool
  | 0 => false
  | m + 1 => reachM κ d t r m || nearB (rayS κ d ((m : Int) - 2) r.toNat).1 t
theorem reachM_5 (κ : Nat → Int32) (d t r : Int) : reachM κ d t r 5 = reachB κ d t r := by
  unfold reachB
  simp only [reachM, Bool.false_or]
  rfl
theorem r_carr {N : Nat} {τ : qMem} {κ : Nat → Int32} {d t r : Int} (hN : 200000 ≤ N) (hκ : τ.1 2 = κ) (hT : KT κ) (d0 : 0 ≤ d) (d1 : d ≤ 9) (t0 : 0 ≤ t) (t1 : t ≤ 9) (r0 : 0 ≤ r) (r1 : r ≤ 200) (hc : gi τ 0 7 = gi τ 0 2 → carrOK τ.1 κ) :
    Ho (fX12_carries N (zI d) (zI t) (zI r) τ) (fun a => a.1 = bI (reachB κ d t r) ∧ gi a.2 0 7 = gi τ 0 2 ∧ carrOK a.2.1 κ ∧ ∀ k j, k ≠ 5 → ¬ (k = 0 ∧ j = 7) → gi a.2 k j = gi τ k j) := by
  have hread : ∀ ρ : qMem, carrOK ρ.1 κ → gi ρ 0 7 = gi τ 0 2 → (∀ k j, k ≠ 5 → ¬ (k = 0 ∧ j = 7) → gi ρ k j = gi τ k j) → Ho (fX12_carries_b84 N (zI d) (zI t) (zI r) ρ) (fun a => a.1 = bI (reachB κ d t r) ∧ gi a.2 0 7 = gi τ 0 2 ∧ carrOK a.2.1 κ ∧ ∀ k j, k ≠ 5 → ¬ (k = 0 ∧ j = 7) → gi a.2 k j = gi τ k j) := by
    intro ρ h1 h2 h3
    unfold fX12_carries_b84
    have e : gi ρ 5 ((10 * d + t) * 201 + r).toNat = bI (reachB κ d t r) := h1 d t r d0 d1 t0 t1 r0 r1
    simp (disch := omega) only [zl_10, zl_201, zI_mul, zI_add, zI_ckT, zI_clamp, if_true, e]
    rw [if_pos (bI_or _)]
    exact Ho_some ⟨rfl, h2, h1, h3⟩
  unfold fX12_carries
  by_cases q : gi τ 0 7 = gi τ 0 2
  · rw [if_pos q]
    exact hread τ (hc q) q (fun _ _ _ _ => rfl)
  · rw [if_neg q, show (0 : Int32) = zI 0 from rfl]
    have base : ∀ k j, k ≠ 5 → ¬ (k = 0 ∧ j = 7) → gi (si τ 0 7 (gi τ 0 2)) k j = gi τ k j := by
      intro k j h1 h2
      rw [gi_si, if_neg h2]
    have base7 : gi (si τ 0 7 (gi τ 0 2)) 0 7 = gi τ 0 2 := by rw [gi_si, if_pos ⟨rfl, rfl⟩]
    generalize si τ 0 7 (gi τ 0 2) = τ1 at base base7
    show Ho (fX12_carries_l22 N N (zI d) (zI t) (zI r) (zI 0) τ1) _
    refine lp_for (S := qMem) (R := Int32 × qMem) (fun n i p => fX12_carries_l22 N n (zI d) (zI t) (zI r) (zI i) p) (fun i p => 0 ≤ i ∧ (∀ j : Nat, (j : Int) < i → gi p 5 j = 0) ∧ ∀ k j, k ≠ 5 → gi p k j = gi τ1 k j) _ 20100 ?_ ?_ N 0 τ1 (by omega) (by omega) ⟨by omega, fun j hj => by omega, fun _ _ _ => rfl⟩
    · intro n p ⟨_, h1, h2⟩
      show Ho (fX12_carries_s22 N _ _ _ _ _ _) _
      unfold fX12_carries_s22
      simp (disch := omega) only [zl_20100, zI_le]
      rw [if_pos (by omega), show (0 : Int32) = zI 0 from rfl]
      refine lp_for (S := qMem) (R := Int32 × qMem) (fun n i p => fX12_carries_l47 N n (zI d) (zI t) (zI r) (zI i) p) (fun i p => 0 ≤ i ∧ carP p.1 (fun e x r => decide (e < i) && reachB κ e x r) ∧ ∀ k j, k ≠ 5 → gi p k j = gi τ1 k j) _ 10 ?_ ?_ N 0 p (by omega) (by omega) ?_
      · intro n2 p2 ⟨_, g1, g2⟩
        show Ho (fX12_carries_s47 N _ _ _ _ _ _) _
        unfold fX12_carries_s47
        simp (disch := omega) only [zl_10, zI_le]
        rw [if_pos (by omega)]
        refine hread p2 (fun e x y a1 a2 a3 a4 a5 a6 => ?_) ?_ (fun k j h3 h4 => ?_)
        · have := g1 e x y a1 a2 a3 a4 a5 a6
          dsimp only at this
          rw [decide_eq_true (show e < 10 by omega), Bool.true_and] at this
          exact this
        · rw [g2 0 7 (by omega)]; exact base7
        · rw [g2 k j h3]; exact base k j h3 h4
      · intro n2 i p2 hi ⟨i0, g1, g2⟩ hc2
        show Ho (fX12_carries_s47 N _ _ _ _ _ _) _
        unfold fX12_carries_s47
        simp (disch := omega) only [zl_10, zI_le]
        rw [if_neg (by omega), show (-2 : Int32) = zI (0 - 2) from rfl]
        refine lp_for (S := qMem) (R := Int32 × qMem) (fun n' m p => fX12_carries_l58 N (fX12_carries_l47 N n2) n' (zI d) (zI t) (zI r) (zI i) (zI (m - 2)) p) (fun m p => 0 ≤ m ∧ carP p.1 (fun e x r => (decide (e < i) && reachB κ e x r) || (decide (e = i) && reachM κ i x r m.toNat)) ∧ ∀ k j, k ≠ 5 → gi p k j = gi τ1 k j) _ 5 ?_ ?_ N 0 p2 (by omega) (by omega) ?_
        · intro n' p3 ⟨_, u1, u2⟩
          show Ho (fX12_carries_s58 N _ _ _ _ _ _ _ _) _
          unfold fX12_carries_s58
          simp (disch := omega) only [zl_1, zl_2, zI_lt, zI_add]
          rw [if_pos (by omega)]
          refine hc2 _ ⟨by omega, fun e x y a1 a2 a3 a4 a5 a6 => ?_, u2⟩
          rw [u1 e x y a1 a2 a3 a4 a5 a6]
          dsimp only
          congr 1
          by_cases qe : e = i
          · rw [decide_eq_false (show ¬ e < i by omega), decide_eq_true qe, decide_eq_true (show e < i + 1 by omega), qe]
            simp only [Bool.false_and, Bool.false_or, Bool.true_and]
            exact reachM_5 κ i x y
          · rw [decide_eq_false qe, Bool.false_and, Bool.or_false]
            congr 1
            exact decide_eq_decide.mpr (by omega)
        · intro n' m p3 hm ⟨m0, u1, u2⟩ hc3
          show Ho (fX12_carries_s58 N _ _ _ _ _ _ _ _) _
          unfold fX12_carries_s58
          simp (disch := omega) only [zl_1, zl_2, zI_lt, zI_add]
          rw [if_neg (by omega)]
          have hκ3 : p3.1 2 = κ := by
            rw [← hκ]
            exact funext fun j => (u2 2 j (by omega)).trans (base 2 j (by omega) (by omega))
          refine Ho_bind (r_ray hN hκ3 hT i0 (by omega) (by omega) (by omega) u1) fun p4 ⟨w1, w2⟩ => ?_
          rw [show m - 2 + 1 = m + 1 - 2 by omega]
          refine hc3 p4 ⟨by omega, fun e x y a1 a2 a3 a4 a5 a6 => ?_, fun k j hk => (w2 k j hk).trans (u2 k j hk)⟩
          rw [w1 e x y a1 a2 a3 a4 a5 a6]
          dsimp only
          rw [show (m + 1).toNat = m.toNat + 1 by omega, reachM, show ((m.toNat : Nat) : Int) = m by omega]
          congr 1
          cases decide (e = i) <;> simp [Bool.or_assoc]
        · refine ⟨by omega, fun e x y a1 a2 a3 a4 a5 a6 => ?_, g2⟩
          rw [g1 e x y a1 a2 a3 a4 a5 a6]
          dsimp only
          simp [reachM]
      · refine ⟨by omega, fun e x y a1 a2 a3 a4 a5 a6 => ?_, h2⟩
        dsimp only
        rw [decide_eq_false (show ¬ e < 0 by omega), Bool.false_and]
        exact h1 _ (by omega)
    · intro n i p hi ⟨i0, h1, h2⟩ hc2
      show Ho (fX12_carries_s22 N _ _ _ _ _ _) _
      unfold fX12_carries_s22
      simp (disch := omega) only [zl_1, zl_20100, zI_le, zI_ckT, zI_clamp, if_true, nmM, zI_add]
      rw [if_neg (by omega)]
      refine hc2 _ ⟨by omega, fun j hj => ?_, fun k j hk => ?_⟩
      · rw [gi_si]
        by_cases qj : j = i.toNat
        · rw [if_pos ⟨rfl, qj⟩]; rfl
        · rw [if_neg (by omega)]; exact h1 j (by omega)
      · rw [gi_si, if_neg (by omega)]; exact h2 k j hk
