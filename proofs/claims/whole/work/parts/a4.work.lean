/-! long numbers; the class's steps -/
def zL (z : Int) : Int64 := Int64.ofInt z
theorem zL_toInt {a : Int} (h1 : -9223372036854775808 ≤ a) (h2 : a < 9223372036854775808) : (zL a).toInt = a := by
  unfold zL
  exact Int64.toInt_ofInt_of_le (by omega) (by omega)
theorem zL_of (x : Int64) : zL x.toInt = x := by
  unfold zL
  exact Int64.ofInt_toInt x
theorem zL_add (a b : Int) : zL a + zL b = zL (a + b) := by unfold zL; exact (Int64.ofInt_add a b).symm
theorem zL_mul (a b : Int) : zL a * zL b = zL (a * b) := by unfold zL; exact (Int64.ofInt_mul a b).symm
theorem zL_sub (a b : Int) : zL a - zL b = zL (a - b) := by unfold zL; exact (Int64.ofInt_sub a b).symm
theorem zL_le {a b : Int} (h1 : -9223372036854775808 ≤ a) (h2 : a < 9223372036854775808) (h3 : -9223372036854775808 ≤ b) (h4 : b < 9223372036854775808) : (zL a ≤ zL b) = (a ≤ b) := by
  rw [Int64.le_iff_toInt_le, zL_toInt h1 h2, zL_toInt h3 h4]
theorem zL_lt {a b : Int} (h1 : -9223372036854775808 ≤ a) (h2 : a < 9223372036854775808) (h3 : -9223372036854775808 ≤ b) (h4 : b < 9223372036854775808) : (zL a < zL b) = (a < b) := by
  rw [Int64.lt_iff_toInt_lt, zL_toInt h1 h2, zL_toInt h3 h4]
theorem zL_eq {a b : Int} (h1 : -9223372036854775808 ≤ a) (h2 : a < 9223372036854775808) (h3 : -9223372036854775808 ≤ b) (h4 : b < 9223372036854775808) : (zL a = zL b) = (a = b) := by
  rw [← Int64.toInt_inj, zL_toInt h1 h2, zL_toInt h3 h4]
theorem zL_div {a b : Int} (h1 : -9223372036854775808 < a) (h2 : a < 9223372036854775808) (h3 : -9223372036854775808 ≤ b) (h4 : b < 9223372036854775808) : zL a / zL b = zL (a.tdiv b) := by
  have e : (zL a / zL b).toInt = a.tdiv b := by
    have hne : zL a ≠ Int64.minValue := by
      intro e
      have := congrArg Int64.toInt e
      rw [zL_toInt (by omega) h2] at this
      have e2 : Int64.minValue.toInt = -9223372036854775808 := by decide
      omega
    rw [Int64.toInt_div_of_ne_left _ _ hne, zL_toInt (by omega) h2, zL_toInt h3 h4]
  rw [← zL_of (zL a / zL b), e]
theorem zI_long {a : Int} (h1 : -2147483648 ≤ a) (h2 : a < 2147483648) : (zI a).toInt64 = zL a := by
  rw [← zL_of (zI a).toInt64, Int32.toInt_toInt64, zI_toInt h1 h2]
theorem zL_int {a : Int} (h1 : -2147483648 ≤ a) (h2 : a < 2147483648) : (zL a).toInt32 = zI a := by
  unfold zL zI
  exact Int64.toInt32_ofInt
def smE (v : Int) : Prop := -1000000000 ≤ v ∧ v ≤ 1000000000
theorem tdiv_sm {x y : Int} (hx : smE x) (hy : y ≠ 0) : smE (x.tdiv y) := by
  have h1 : (x.tdiv y).natAbs ≤ x.natAbs := by
    rw [Int.natAbs_tdiv]
    exact Nat.div_le_self _ _
  unfold smE at hx ⊢
  omega
theorem mul_sm {x y : Int} (hx : smE x) (hy : smE y) : -1000000000000000000 ≤ x * y ∧ x * y ≤ 1000000000000000000 := by
  have h1 : (x * y).natAbs ≤ 1000000000 * 1000000000 := by
    rw [Int.natAbs_mul]
    exact Nat.mul_le_mul (by unfold smE at hx; omega) (by unfold smE at hy; omega)
  omega
theorem opR_rng {o x y : Int} (hx : smE x) (hy : smE y) : -1000000000000000000 ≤ opR o x y ∧ opR o x y ≤ 1000000000000000000 := by
  have m := mul_sm hx hy
  unfold opR
  unfold smE at hx hy
  split
  · omega
  · split
    · omega
    · split
      · omega
      · split
        · omega
        · rename_i h
          have := tdiv_sm (x := x) (y := y) hx h
          unfold smE at this
          omega
/-- cells but the height -/
def frK (K : Nat) (σ σ' : qMem) : Prop := ∀ k j, ¬ (k = K ∧ j = 6) → gi σ' k j = gi σ k j
theorem frK_refl (K : Nat) (σ : qMem) : frK K σ σ := fun _ _ _ => rfl
theorem frK_trans {K : Nat} {a b c : qMem} (h : frK K a b) (h2 : frK K b c) : frK K a c := fun k j hk => (h2 k j hk).trans (h k j hk)
def pushed (K h : Nat) (v : Int) (σ σ' : qMem) : Prop := frK K σ σ' ∧ gi σ' K 6 = zI ((h + 1 : Nat) : Int) ∧ gl σ' (K + 6) h = zL v ∧ ∀ i, i < h → gl σ' (K + 6) i = gl σ (K + 6) i
theorem e_lay {K h : Nat} {v : Int} {σ : qMem} (hh : gi σ K 6 = zI h) (h6 : h < 64) : ∃ σ', fX5_lay K (zL v) σ = some σ' ∧ pushed K h v σ σ' := by
  unfold fX5_lay
  have c1 : (64 ≤ zI h) = False := by rw [show (64 : Int32) = zI 64 from rfl, zI_le (by omega) (by omega) (by omega) (by omega)]; exact eq_false (by omega)
  have k0 : (ck (zI h) 64 = true) = True := zI_ckT (by omega) (by omega) (by omega)
  have z0 : (zI h).toNatClampNeg = h := by rw [zI_clamp (by omega) (by omega)]; omega
  simp only [hh, c1, if_false, k0, if_true, z0, nmM, gi_slx]
  refine ⟨_, rfl, fun k j hk => ?_, ?_, ?_, fun i hi => ?_⟩
  · rw [gi_si, if_neg hk, gi_slx]
  · rw [gi_si, if_pos ⟨rfl, rfl⟩, show (1 : Int32) = zI 1 from rfl, zI_add]; rfl
  · show gl (si _ K 6 _) (K + 6) h = _
    rw [show gl (si (sl σ (K + 6) h (zL v)) K 6 (zI h + 1)) (K + 6) h = gl (sl σ (K + 6) h (zL v)) (K + 6) h from rfl, gl_slx, if_pos ⟨rfl, rfl⟩]
  · rw [show gl (si (sl σ (K + 6) h (zL v)) K 6 (zI h + 1)) (K + 6) i = gl (sl σ (K + 6) h (zL v)) (K + 6) i from rfl, gl_slx, if_neg (by omega)]
/-- what an operation leaves, and whether it may stand -/
def jnR (o x y : Int) : Int := if o ≤ 5 then opR o x y else if cmS o x y then 1 else 0
theorem e_join {K h : Nat} {o x y : Int} {σ : qMem} (hh : gi σ K 6 = zI ((h + 2 : Nat) : Int)) (h6 : h + 2 ≤ 64) (o1 : 2 ≤ o) (o2 : o ≤ 8) (gx : gl σ (K + 6) h = zL x) (gy : gl σ (K + 6) (h + 1) = zL y) (hx : smE x) (hy : smE y) :
    ∃ σ', fX5_joinTwo K (zI o) σ = some (bI (decide (-1000000000 ≤ jnR o x y ∧ jnR o x y ≤ 1000000000)), σ') ∧ pushed K h (jnR o x y) σ σ' := by
  have r := opR_rng (o := o) hx hy
  have x' := hx
  have y' := hy
  unfold smE at x' y'
  have rj : -1000000000000000000 ≤ jnR o x y ∧ jnR o x y ≤ 1000000000000000000 := by
    unfold jnR
    split
    · exact r
    · split <;> omega
  have c2 : (2 ≤ zI ((h + 2 : Nat) : Int)) = True := by rw [show (2 : Int32) = zI 2 from rfl, zI_le (by omega) (by omega) (by omega) (by omega)]; exact eq_true (by omega)
  have e2 : zI ((h + 2 : Nat) : Int) - 2 = zI (h : Int) := by rw [show (2 : Int32) = zI 2 from rfl, zI_sub]; congr 1; omega
  have e1 : zI ((h + 2 : Nat) : Int) - 1 = zI ((h + 1 : Nat) : Int) := by rw [show (1 : Int32) = zI 1 from rfl, zI_sub]; congr 1; omega
  have e0 : zI ((h + 1 : Nat) : Int) - 1 = zI (h : Int) := by rw [show (1 : Int32) = zI 1 from rfl, zI_sub]; congr 1; omega
  have k0 : (ck (zI (h : Int)) 64 = true) = True := zI_ckT (by omega) (by omega) (by omega)
  have k1 : (ck (zI ((h + 1 : Nat) : Int)) 64 = true) = True := zI_ckT (by omega) (by omega) (by omega)
  have z0 : (zI (h : Int)).toNatClampNeg = h := by rw [zI_clamp (by omega) (by omega)]; omega
  have z1 : (zI ((h + 1 : Nat) : Int)).toNatClampNeg = h + 1 := by rw [zI_clamp (by omega) (by omega)]; omega
  have b173 : ∀ v : Int, v = jnR o x y → ∃ σ', fX5_joinTwo_b173 K (zL v) σ = some (bI (decide (-1000000000 ≤ jnR o x y ∧ jnR o x y ≤ 1000000000)), σ') ∧ pushed K h (jnR o x y) σ σ' := by
    intro v hv
    rw [← hv] at rj ⊢
    unfold fX5_joinTwo_b173 fX5_joinTwo_b218
    have g6 : gi (si σ K 6 (zI ((h + 1 : Nat) : Int))) K 6 = zI ((h + 1 : Nat) : Int) := by rw [gi_si, if_pos ⟨rfl, rfl⟩]
    have l1 : (lg_cmp (zL v) (-1000000000) < 0) = (v < -1000000000) := by rw [show (-1000000000 : Int64) = zL (-1000000000) from rfl]; exact propext ((lg_cmp_lt _ _).trans (by rw [zL_lt (by omega) (by omega) (by omega) (by omega)]))
    have l2 : (0 < lg_cmp (zL v) 1000000000) = (1000000000 < v) := by rw [show (1000000000 : Int64) = zL 1000000000 from rfl]; exact propext ((lg_cmp_gt _ _).trans (by rw [zL_lt (by omega) (by omega) (by omega) (by omega)]))
    simp only [hh, e1, nmM, g6, e0, k0, z0, if_true, l1, l2]
    have pu : pushed K h v σ (sl (si σ K 6 (zI ((h + 1 : Nat) : Int))) (K + 6) h (zL v)) := by
      refine ⟨fun k j hk => ?_, ?_, ?_, fun i hi => ?_⟩
      · rw [gi_slx, gi_si, if_neg hk]
      · rw [gi_slx, gi_si, if_pos ⟨rfl, rfl⟩]
      · rw [gl_slx, if_pos ⟨rfl, rfl⟩]
      · rw [gl_slx, if_neg (by omega)]; rfl
    refine ⟨_, ?_, pu⟩
    by_cases q1 : v < -1000000000
    · rw [if_pos q1, decide_eq_false (by omega)]; rfl
    · rw [if_neg q1]
      by_cases q2 : 1000000000 < v
      · rw [if_pos q2, decide_eq_false (by omega)]; rfl
      · rw [if_neg q2, decide_eq_true (by omega)]; rfl
  unfold fX5_joinTwo
  simp only [hh, c2, if_true, e2, e1, k0, k1, z0, z1, gx, gy, nmL]
  have oe : ∀ c : Int, 0 ≤ c → c ≤ 20 → (zI o = zI c) = (o = c) := fun c c0 c1 => by rw [zI_eq (by omega) (by omega) (by omega) (by omega)]
  have o2' : (zI o = 2) = (o = 2) := oe 2 (by omega) (by omega)
  have o3' : (zI o = 3) = (o = 3) := oe 3 (by omega) (by omega)
  have o4' : (zI o = 4) = (o = 4) := oe 4 (by omega) (by omega)
  have o5' : (zI o = 5) = (o = 5) := oe 5 (by omega) (by omega)
  have o6' : (zI o = 6) = (o = 6) := oe 6 (by omega) (by omega)
  have o7' : (zI o = 7) = (o = 7) := oe 7 (by omega) (by omega)
  have ly : (lg_cmp (zL y) 0 = 0) = (y = 0) := by rw [show (0 : Int64) = zL 0 from rfl]; exact propext ((lg_cmp_eq _ _).trans (by rw [zL_eq (by omega) (by omega) (by omega) (by omega)]))
  have yz : (zL y = 0) = (y = 0) := by rw [show (0 : Int64) = zL 0 from rfl, zL_eq (by omega) (by omega) (by omega) (by omega)]
  have lge : (0 ≤ lg_cmp (zL x) (zL y)) = (y ≤ x) := propext ((lg_cmp_ge _ _).trans (by rw [zL_le (by omega) (by omega) (by omega) (by omega)]))
  have lle : (lg_cmp (zL x) (zL y) ≤ 0) = (x ≤ y) := propext ((lg_cmp_le _ _).trans (by rw [zL_le (by omega) (by omega) (by omega) (by omega)]))
  have leq : (lg_cmp (zL x) (zL y) = 0) = (x = y) := propext ((lg_cmp_eq _ _).trans (by rw [zL_eq (by omega) (by omega) (by omega) (by omega)]))
  simp only [o2', o3', o4', o5', o6', o7', ly, yz, lge, lle, leq]
  by_cases q2 : o = 2
  · rw [if_pos q2, zL_add]; exact b173 _ (by subst q2; unfold jnR opR; simp)
  · rw [if_neg q2]
    by_cases q3 : o = 3
    · rw [if_pos q3, zL_sub]; exact b173 _ (by subst q3; unfold jnR opR; simp)
    · rw [if_neg q3]
      by_cases q4 : o = 4
      · rw [if_pos q4, zL_mul]; exact b173 _ (by subst q4; unfold jnR opR; simp)
      · rw [if_neg q4]
        by_cases q5 : o = 5
        · rw [if_pos q5]
          unfold fX5_joinTwo_b120
          by_cases z : y = 0
          · rw [if_pos z, show (1000000001 : Int64) = zL 1000000001 from rfl]; exact b173 _ (by subst q5; subst z; unfold jnR opR; simp)
          · rw [if_neg z, if_neg z, zL_div (by omega) (by omega) (by omega) (by omega)]; exact b173 _ (by subst q5; unfold jnR opR; simp [z])
        · rw [if_neg q5]
          by_cases q6 : o = 6
          · rw [if_pos q6]
            unfold fX5_joinTwo_b137
            by_cases z : y ≤ x
            · rw [if_pos z, show (0 : Int64) = zL 0 from rfl]; exact b173 _ (by subst q6; unfold jnR cmS; simp; omega)
            · rw [if_neg z, show (1 : Int64) = zL 1 from rfl]; exact b173 _ (by subst q6; unfold jnR cmS; simp; omega)
          · rw [if_neg q6]
            by_cases q7 : o = 7
            · rw [if_pos q7]
              unfold fX5_joinTwo_b154
              by_cases z : x ≤ y
              · rw [if_pos z, show (0 : Int64) = zL 0 from rfl]; exact b173 _ (by subst q7; unfold jnR cmS; simp; omega)
              · rw [if_neg z, show (1 : Int64) = zL 1 from rfl]; exact b173 _ (by subst q7; unfold jnR cmS; simp; omega)
            · rw [if_neg q7]
              have q8 : o = 8 := by omega
              unfold fX5_joinTwo_b171
              by_cases z : x = y
              · rw [if_pos z, show (1 : Int64) = zL 1 from rfl]; exact b173 _ (by subst q8; unfold jnR cmS; simp [z])
              · rw [if_neg z, show (0 : Int64) = zL 0 from rfl]; exact b173 _ (by subst q8; unfold jnR cmS; simp [z])
