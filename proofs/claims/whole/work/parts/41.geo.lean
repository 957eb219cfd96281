/-! small tests, directions -/
theorem e_isIn {a b c : Int} (h1 : -2147483648 ≤ a) (h2 : a < 2147483648) (h3 : -2147483648 ≤ b) (h4 : b < 2147483648) (h5 : -2147483648 ≤ c) (h6 : c < 2147483648) : fX11_isIn (zI a) (zI b) (zI c) = some (bI (decide (b ≤ a ∧ a ≤ c))) := by
  unfold fX11_isIn fX11_isIn_b14
  simp only [zI_lt h1 h2 h3 h4, zI_lt h5 h6 h1 h2]
  by_cases ha : a < b
  · rw [if_pos ha, decide_eq_false (by omega)]; rfl
  · rw [if_neg ha]
    by_cases hb : c < a
    · rw [if_pos hb, decide_eq_false (by omega)]; rfl
    · rw [if_neg hb, decide_eq_true (by omega)]; rfl
theorem e_in {a b c : Int} (h1 : -2147483648 ≤ a) (h2 : a < 2147483648) (h3 : -2147483648 ≤ b) (h4 : b < 2147483648) (h5 : -2147483648 ≤ c) (h6 : c < 2147483648) : fX12_in (zI a) (zI b) (zI c) = some (bI (decide (b ≤ a ∧ a ≤ c))) := by
  unfold fX12_in fX12_in_b14
  simp only [zI_lt h1 h2 h3 h4, zI_lt h5 h6 h1 h2]
  by_cases ha : a < b
  · rw [if_pos ha, decide_eq_false (by omega)]; rfl
  · rw [if_neg ha]
    by_cases hb : c < a
    · rw [if_pos hb, decide_eq_false (by omega)]; rfl
    · rw [if_neg hb, decide_eq_true (by omega)]; rfl
theorem bI_ok {b : Bool} {α : Type} {x y : α} : (if bI b = 0 ∨ bI b = 1 then x else y) = x := if_pos (bI_or b)
theorem e_isBell {a : Int} (h1 : -2147483648 ≤ a) (h2 : a < 2147483648) : fX11_isBell (zI a) = some (bI (decide (0 ≤ a ∧ a ≤ 23))) := by
  unfold fX11_isBell
  rw [zl_0, zl_23, e_isIn h1 h2 (by omega) (by omega) (by omega) (by omega), Option.bind_some, ← zl_0]
  exact bI_ok
theorem r_isBell {a : Int} (h1 : -2147483648 ≤ a) (h2 : a < 2147483648) : fX12_isBell (zI a) = some (bI (decide (0 ≤ a ∧ a ≤ 23))) := by
  unfold fX12_isBell
  rw [zl_0, zl_23, e_in h1 h2 (by omega) (by omega) (by omega) (by omega), Option.bind_some, ← zl_0]
  exact bI_ok
theorem r_isSea {a : Int} (h1 : -2147483648 ≤ a) (h2 : a < 2147483648) : fX12_isSea (zI a) = some (bI (decide (0 ≤ a ∧ a ≤ 31))) := by
  unfold fX12_isSea
  rw [zl_0, zl_31, e_in h1 h2 (by omega) (by omega) (by omega) (by omega), Option.bind_some, ← zl_0]
  exact bI_ok
theorem r_isBoat {a : Int} (h1 : -2147483648 ≤ a) (h2 : a < 2147483648) : fX12_isBoat (zI a) = some (bI (decide (0 ≤ a ∧ a ≤ 1))) := by
  unfold fX12_isBoat
  rw [zl_0, zl_1, e_in h1 h2 (by omega) (by omega) (by omega) (by omega), Option.bind_some, ← zl_0, ← zl_1]
  exact bI_ok
theorem r_isPace {a : Int} (h1 : -2147483648 ≤ a) (h2 : a < 2147483648) : fX12_isPace (zI a) = some (bI (decide (-3 ≤ a ∧ a ≤ 3))) := by
  unfold fX12_isPace
  rw [zl_3, zI_neg, e_in h1 h2 (by omega) (by omega) (by omega) (by omega), Option.bind_some]
  exact bI_ok
theorem e_isBoat {a : Int} (h1 : -2147483648 ≤ a) (h2 : a < 2147483648) : fX11_isBoat (zI a) = some (bI (decide (0 ≤ a ∧ a ≤ 1))) := by
  unfold fX11_isBoat fX11_isBoat_b9
  simp (disch := omega) only [zl_0, zI_eq]
  have e1 : (zI a = 1) = (a = 1) := by rw [zl_1, zI_eq h1 h2 (by omega) (by omega)]
  simp only [e1, ← zl_0]
  by_cases ha : a = 0
  · rw [if_pos ha, decide_eq_true (by omega)]; rfl
  · rw [if_neg ha]
    by_cases hb : a = 1
    · rw [if_pos hb, decide_eq_true (by omega)]; rfl
    · rw [if_neg hb, decide_eq_false (by omega)]; rfl
theorem e_ofSea {a b : Int} (h1 : -2147483648 ≤ a) (h2 : a < 2147483648) (h3 : -2147483648 ≤ b) (h4 : b < 2147483648) : fX11_ofSea (zI a) (zI b) = some (bI (decide ((0 ≤ a ∧ a ≤ 31) ∧ (0 ≤ b ∧ b ≤ 31)))) := by
  unfold fX11_ofSea fX11_ofSea_b24
  rw [show (0 : Int32) = zI 0 from rfl, zl_31, e_isIn h1 h2 (by omega) (by omega) (by omega) (by omega), e_isIn h3 h4 (by omega) (by omega) (by omega) (by omega)]
  simp only [Option.bind_some, ← zl_0, bI_0]
  by_cases ha : 0 ≤ a ∧ a ≤ 31 <;> by_cases hb : 0 ≤ b ∧ b ≤ 31 <;> simp [ha, hb, bI]
theorem e_isPace {a b : Int} (h1 : -2147483648 ≤ a) (h2 : a < 2147483648) (h3 : -2147483648 ≤ b) (h4 : b < 2147483648) : fX11_isPace (zI a) (zI b) = some (bI (decide ((-3 ≤ a ∧ a ≤ 3) ∧ (-3 ≤ b ∧ b ≤ 3)))) := by
  unfold fX11_isPace fX11_isPace_b24
  rw [zl_3, zI_neg, e_isIn h1 h2 (by omega) (by omega) (by omega) (by omega), e_isIn h3 h4 (by omega) (by omega) (by omega) (by omega)]
  simp only [Option.bind_some, bI_0]
  by_cases ha : -3 ≤ a ∧ a ≤ 3 <;> by_cases hb : -3 ≤ b ∧ b ≤ 3 <;> simp [ha, hb, bI]
theorem e_isRun {x y a b : Int} (g1 : -2147483648 ≤ x) (g2 : x < 2147483648) (g3 : -2147483648 ≤ y) (g4 : y < 2147483648) (h1 : -2147483648 ≤ a) (h2 : a < 2147483648) (h3 : -2147483648 ≤ b) (h4 : b < 2147483648) : fX11_isRun (zI x) (zI y) (zI a) (zI b) = some (bI (decide (((0 ≤ x ∧ x ≤ 31) ∧ (0 ≤ y ∧ y ≤ 31)) ∧ ((-3 ≤ a ∧ a ≤ 3) ∧ (-3 ≤ b ∧ b ≤ 3))))) := by
  unfold fX11_isRun fX11_isRun_b20
  rw [e_ofSea g1 g2 g3 g4, e_isPace h1 h2 h3 h4]
  simp only [Option.bind_some, bI_0]
  by_cases ha : (0 ≤ x ∧ x ≤ 31) ∧ (0 ≤ y ∧ y ≤ 31) <;> by_cases hb : (-3 ≤ a ∧ a ≤ 3) ∧ (-3 ≤ b ∧ b ≤ 3) <;> simp [ha, hb, bI]
theorem r_size {a : Int} (h1 : -2147483648 < a) (h2 : a < 2147483648) : fX12_size (zI a) = some (zI (max a (-a))) := by
  unfold fX12_size
  simp (disch := omega) only [zl_0, zI_le, zI_neg]
  split <;> congr 2 <;> omega
theorem r_more {a b : Int} (h1 : -2147483648 ≤ a) (h2 : a < 2147483648) (h3 : -2147483648 ≤ b) (h4 : b < 2147483648) : fX12_more (zI a) (zI b) = some (zI (max a b)) := by
  unfold fX12_more
  simp only [zI_le h1 h2 h3 h4]
  split <;> congr 2 <;> omega
def szS (a : Int) : Int := max a (-a)
def mxS (x y : Int) : Int := max (szS x) (szS y)
def roseS (x y : Int) : Int :=
  if y = mxS x y ∧ x < mxS x y then (x + mxS x y) * 10 / mxS x y
  else if x = mxS x y ∧ -mxS x y < y then 20 + (mxS x y - y) * 10 / mxS x y
  else if y = -mxS x y ∧ -mxS x y < x then 40 + (mxS x y - x) * 10 / mxS x y
  else 60 + (y + mxS x y) * 10 / mxS x y
def turnS (a b : Int) : Int := min (szS (a - b)) (80 - szS (a - b))
theorem rose_N {x y : Int} (h1 : 0 < y) (h2 : -y ≤ x) (h3 : x < y) : roseS x y = 10 + 10 * x / y := by
  have hm : mxS x y = y := by unfold mxS szS; omega
  unfold roseS
  rw [hm, if_pos ⟨rfl, h3⟩, show (x + y) * 10 = 10 * x + 10 * y by omega, Int.add_mul_ediv_right _ _ (by omega)]
  omega
theorem rose_E {x y : Int} (h1 : 0 < x) (h2 : -x < y) (h3 : y ≤ x) : roseS x y = 30 + (-10 * y) / x := by
  have hm : mxS x y = x := by unfold mxS szS; omega
  unfold roseS
  rw [hm, if_neg (by omega), if_pos ⟨rfl, h2⟩, show (x - y) * 10 = -10 * y + 10 * x by omega, Int.add_mul_ediv_right _ _ (by omega)]
  omega
theorem rose_S {x y : Int} (h1 : y < 0) (h2 : y < x) (h3 : x ≤ -y) : roseS x y = 50 + (-10 * x) / (-y) := by
  have hm : mxS x y = -y := by unfold mxS szS; omega
  unfold roseS
  rw [hm, if_neg (by omega), if_neg (by omega), if_pos (by omega), show (-y - x) * 10 = -10 * x + 10 * (-y) by omega, Int.add_mul_ediv_right _ _ (by omega)]
  omega
theorem rose_W {x y : Int} (h1 : x < 0) (h2 : x ≤ y) (h3 : y < -x) : roseS x y = 70 + (10 * y) / (-x) := by
  have hm : mxS x y = -x := by unfold mxS szS; omega
  unfold roseS
  rw [hm, if_neg (by omega), if_neg (by omega), if_neg (by omega), show (y + -x) * 10 = 10 * y + 10 * (-x) by omega, Int.add_mul_ediv_right _ _ (by omega)]
  omega
theorem rose_cases (x y : Int) (h : x ≠ 0 ∨ y ≠ 0) : (0 < y ∧ -y ≤ x ∧ x < y) ∨ (0 < x ∧ -x < y ∧ y ≤ x) ∨ (y < 0 ∧ y < x ∧ x ≤ -y) ∨ (x < 0 ∧ x ≤ y ∧ y < -x) := by omega
theorem ediv_lo {a b c : Int} (hb : 0 < b) (h : c * b ≤ a) : c ≤ a / b := (Int.le_ediv_iff_mul_le hb).mpr h
theorem ediv_hi {a b c : Int} (hb : 0 < b) (h : a < c * b) : a / b < c := (Int.ediv_lt_iff_lt_mul hb).mpr h
theorem rose_rng (x y : Int) (h : x ≠ 0 ∨ y ≠ 0) : 0 ≤ roseS x y ∧ roseS x y ≤ 79 := by
  rcases rose_cases x y h with ⟨a, b, c⟩ | ⟨a, b, c⟩ | ⟨a, b, c⟩ | ⟨a, b, c⟩
  · rw [rose_N a b c]
    have h1 := ediv_lo (a := 10 * x) (b := y) (c := -10) a (by omega)
    have h2 := ediv_hi (a := 10 * x) (b := y) (c := 10) a (by omega)
    omega
  · rw [rose_E a b c]
    have h1 := ediv_lo (a := -10 * y) (b := x) (c := -10) a (by omega)
    have h2 := ediv_hi (a := -10 * y) (b := x) (c := 10) a (by omega)
    omega
  · rw [rose_S a b c]
    have h1 := ediv_lo (a := -10 * x) (b := -y) (c := -10) (by omega) (by omega)
    have h2 := ediv_hi (a := -10 * x) (b := -y) (c := 10) (by omega) (by omega)
    omega
  · rw [rose_W a b c]
    have h1 := ediv_lo (a := 10 * y) (b := -x) (c := -10) (by omega) (by omega)
    have h2 := ediv_hi (a := 10 * y) (b := -x) (c := 10) (by omega) (by omega)
    omega
theorem rose_half (x y : Int) (h : x ≠ 0 ∨ y ≠ 0) : roseS (-x) (-y) = (roseS x y + 40) % 80 := by
  have hr := rose_rng x y h
  have hr2 := rose_rng (-x) (-y) (by omega)
  rcases rose_cases x y h with ⟨a, b, c⟩ | ⟨a, b, c⟩ | ⟨a, b, c⟩ | ⟨a, b, c⟩
  · rw [rose_N a b c] at hr ⊢
    rw [rose_S (x := -x) (y := -y) (by omega) (by omega) (by omega), show -10 * -x = 10 * x by omega, show - -y = y by omega] at hr2 ⊢
    omega
  · rw [rose_E a b c] at hr ⊢
    rw [rose_W (x := -x) (y := -y) (by omega) (by omega) (by omega), show 10 * -y = -10 * y by omega, show - -x = x by omega] at hr2 ⊢
    omega
  · rw [rose_S a b c] at hr ⊢
    rw [rose_N (x := -x) (y := -y) (by omega) (by omega) (by omega), show 10 * -x = -10 * x by omega] at hr2 ⊢
    omega
  · rw [rose_W a b c] at hr ⊢
    rw [rose_E (x := -x) (y := -y) (by omega) (by omega) (by omega), show -10 * -y = 10 * y by omega] at hr2 ⊢
    omega
/-- the reference's rose -/
theorem r_rose {x y : Int} (h1 : -100000 ≤ x) (h2 : x ≤ 100000) (h3 : -100000 ≤ y) (h4 : y ≤ 100000) (h : x ≠ 0 ∨ y ≠ 0) : fX12_rose (zI x) (zI y) = some (zI (roseS x y)) := by
  have hm : mxS x y = max (max x (-x)) (max y (-y)) := rfl
  unfold fX12_rose
  rw [r_size (by omega) (by omega), Option.bind_some, r_size (by omega) (by omega), Option.bind_some, r_more (by omega) (by omega) (by omega) (by omega), Option.bind_some, ← hm]
  have hm0 : 0 < mxS x y := by omega
  have hm1 : mxS x y ≤ 100000 := by omega
  have d1 : ∀ a : Int, 0 ≤ a → a ≤ 2000000 → zI a / zI (mxS x y) = zI (a / mxS x y) := fun a p q => zI_divp p (by omega) (by omega) (by omega)
  unfold fX12_rose_b31 fX12_rose_b54 fX12_rose_b78 roseS
  simp (disch := omega) only [zl_0, zl_1, zl_2, zl_3, zl_4, zl_5, zl_6, zl_7, zl_8, zl_9, zl_10, zl_11, zl_12, zl_13, zl_14, zl_15, zl_16, zl_17, zl_18, zl_19, zl_20, zl_21, zl_22, zl_23, zl_24, zl_25, zl_26, zl_27, zl_28, zl_29, zl_30, zl_31, zl_32, zl_33, zl_34, zl_35, zl_36, zl_37, zl_38, zl_39, zl_40, zl_41, zl_42, zl_43, zl_44, zl_45, zl_46, zl_47, zl_48, zl_49, zl_50, zl_51, zl_57, zl_59, zl_60, zl_61, zl_62, zl_63, zl_64, zl_65, zl_66, zl_67, zl_68, zl_69, zl_70, zl_71, zl_72, zl_73, zl_74, zl_75, zl_76, zl_77, zl_78, zl_79, zl_80, zl_81, zl_86, zl_87, zl_88, zl_89, zl_91, zl_93, zl_97, zl_99, zl_100, zl_108, zl_110, zl_122, zl_144, zl_152, zl_188, zl_199, zl_200, zl_201, zl_204, zl_220, zl_224, zl_226, zl_238, zl_255, zl_268, zl_300, zl_301, zl_302, zl_303, zl_304, zl_305, zl_306, zl_307, zl_308, zl_309, zl_310, zl_312, zl_400, zl_401, zl_712, zl_768, zl_1000, zl_1112, zl_1500, zl_1568, zl_2224, zl_3000, zl_20100, zl_50176, zl_60000, zl_100000, zl_117648, zl_1000000, zl_10000000, zl_1000000000, zI_add, zI_sub, zI_mul, zI_neg, zI_le, zI_lt, zI_eq, Option.bind_some, d1]
  have n0 : ¬ mxS x y = 0 := by omega
  simp only [n0, if_false]
  clear hm
  (repeat' split) <;> first | rfl | (exfalso; omega)
def dirS (x y : Int) : Int := if x = 0 ∧ y = 0 then -1 else roseS x y
theorem dir_3 {x y : Int} (h1 : -100000 ≤ x) (h2 : x ≤ 100000) (h3 : -100000 ≤ y) (h4 : y ≤ 100000) : fX11_direction_b81 (zI x) (zI y) = some (zI (if 0 ≤ x then -1 else 70 + 10 * y / -x)) := by
  unfold fX11_direction_b81
  by_cases h : 0 ≤ x
  · simp (disch := omega) only [zl_0, zl_1, zI_neg, zI_le, h, if_true]
  · simp (disch := omega) only [zl_0, zl_1, zl_10, zl_70, zI_neg, zI_mul, zI_le, h, if_false]
    rw [e_fdivn (by omega) (by omega) (by omega) (by omega), Option.bind_some, zI_add, show -(-10 * y) = 10 * y by omega]
theorem dir_2 {x y : Int} (h1 : -100000 ≤ x) (h2 : x ≤ 100000) (h3 : -100000 ≤ y) (h4 : y ≤ 100000) : fX11_direction_b54 (zI x) (zI y) = some (zI (if y < 0 ∧ y < x ∧ x ≤ -y then 50 + (-10 * x) / (-y) else if 0 ≤ x then -1 else 70 + 10 * y / -x)) := by
  unfold fX11_direction_b54
  rw [dir_3 h1 h2 h3 h4]
  simp (disch := omega) only [zl_0, zl_10, zl_50, zI_neg, zI_mul, zI_le, zI_lt]
  by_cases h : y < 0 ∧ y < x ∧ x ≤ -y
  · have a : ¬ (0 ≤ y) := by omega
    have b : ¬ (x ≤ y) := by omega
    have c : ¬ (-y < x) := by omega
    simp only [a, b, c, h, and_self, if_true, if_false]
    rw [e_fdivn (by omega) (by omega) (by omega) (by omega), Option.bind_some, zI_add, show -(10 * x) = -10 * x by omega]
  · rw [if_neg h]
    by_cases a : 0 ≤ y
    · rw [if_pos a]
    · rw [if_neg a]
      by_cases b : x ≤ y
      · rw [if_pos b]
      · rw [if_neg b, if_pos (by omega)]
theorem dir_1 {x y : Int} (h1 : -100000 ≤ x) (h2 : x ≤ 100000) (h3 : -100000 ≤ y) (h4 : y ≤ 100000) : fX11_direction_b27 (zI x) (zI y) = some (zI (if 0 < x ∧ -x < y ∧ y ≤ x then 30 + (-10 * y) / x else if y < 0 ∧ y < x ∧ x ≤ -y then 50 + (-10 * x) / (-y) else if 0 ≤ x then -1 else 70 + 10 * y / -x)) := by
  unfold fX11_direction_b27
  rw [dir_2 h1 h2 h3 h4]
  simp (disch := omega) only [zl_0, zl_10, zl_30, zI_neg, zI_mul, zI_le, zI_lt]
  by_cases h : 0 < x ∧ -x < y ∧ y ≤ x
  · have a : ¬ (x ≤ 0) := by omega
    have b : ¬ (y ≤ -x) := by omega
    have c : ¬ (x < y) := by omega
    simp only [a, b, c, h, and_self, if_true, if_false]
    rw [e_fdiv (by omega) (by omega) (by omega) (by omega), Option.bind_some, zI_add]
  · rw [if_neg h]
    by_cases a : x ≤ 0
    · rw [if_pos a]
    · rw [if_neg a]
      by_cases b : y ≤ -x
      · rw [if_pos b]
      · rw [if_neg b, if_pos (by omega)]
/-- the class's direction -/
theorem e_dir {x y : Int} (h1 : -100000 ≤ x) (h2 : x ≤ 100000) (h3 : -100000 ≤ y) (h4 : y ≤ 100000) : fX11_direction (zI x) (zI y) = some (zI (dirS x y)) := by
  unfold fX11_direction
  rw [dir_1 h1 h2 h3 h4]
  simp (disch := omega) only [zl_0, zl_10, zI_neg, zI_mul, zI_le, zI_lt]
  unfold dirS
  by_cases hz : x = 0 ∧ y = 0
  · obtain ⟨rfl, rfl⟩ := hz
    rfl
  · rw [if_neg hz]
    by_cases h : 0 < y ∧ -y ≤ x ∧ x < y
    · have a : ¬ (y ≤ 0) := by omega
      have b : ¬ (x < -y) := by omega
      have c : ¬ (y ≤ x) := by omega
      simp only [a, b, c, if_false]
      rw [e_fdiv (by omega) (by omega) (by omega) (by omega), Option.bind_some, zI_add, rose_N h.1 h.2.1 h.2.2]
    · have k : ∀ w z : Option Int32, (if y ≤ 0 then w else if x < -y then w else if y ≤ x then w else z) = w := by
        intro w z
        by_cases a : y ≤ 0
        · rw [if_pos a]
        · rw [if_neg a]
          by_cases b : x < -y
          · rw [if_pos b]
          · rw [if_neg b, if_pos (by omega)]
      rw [k]
      congr 2
      rcases rose_cases x y (by omega) with ⟨a, b, c⟩ | ⟨a, b, c⟩ | ⟨a, b, c⟩ | ⟨a, b, c⟩
      · exact absurd ⟨a, b, c⟩ h
      · rw [rose_E a b c, if_pos ⟨a, b, c⟩]
      · rw [rose_S a b c, if_neg (by omega), if_pos ⟨a, b, c⟩]
      · rw [rose_W a b c, if_neg (by omega), if_neg (by omega), if_neg (by omega)]
theorem r_turned {a b : Int} (h1 : -100000 ≤ a) (h2 : a ≤ 100000) (h3 : -100000 ≤ b) (h4 : b ≤ 100000) : fX12_turned (zI a) (zI b) = some (zI (turnS a b)) := by
  unfold fX12_turned
  rw [zI_sub, r_size (by omega) (by omega), Option.bind_some]
  simp (disch := omega) only [zl_0, zl_1, zl_2, zl_3, zl_4, zl_5, zl_6, zl_7, zl_8, zl_9, zl_10, zl_11, zl_12, zl_13, zl_14, zl_15, zl_16, zl_17, zl_18, zl_19, zl_20, zl_21, zl_22, zl_23, zl_24, zl_25, zl_26, zl_27, zl_28, zl_29, zl_30, zl_31, zl_32, zl_33, zl_34, zl_35, zl_36, zl_37, zl_38, zl_39, zl_40, zl_41, zl_42, zl_43, zl_44, zl_45, zl_46, zl_47, zl_48, zl_49, zl_50, zl_51, zl_57, zl_59, zl_60, zl_61, zl_62, zl_63, zl_64, zl_65, zl_66, zl_67, zl_68, zl_69, zl_70, zl_71, zl_72, zl_73, zl_74, zl_75, zl_76, zl_77, zl_78, zl_79, zl_80, zl_81, zl_86, zl_87, zl_88, zl_89, zl_91, zl_93, zl_97, zl_99, zl_100, zl_108, zl_110, zl_122, zl_144, zl_152, zl_188, zl_199, zl_200, zl_201, zl_204, zl_220, zl_224, zl_226, zl_238, zl_255, zl_268, zl_300, zl_301, zl_302, zl_303, zl_304, zl_305, zl_306, zl_307, zl_308, zl_309, zl_310, zl_312, zl_400, zl_401, zl_712, zl_768, zl_1000, zl_1112, zl_1500, zl_1568, zl_2224, zl_3000, zl_20100, zl_50176, zl_60000, zl_100000, zl_117648, zl_1000000, zl_10000000, zl_1000000000, zI_add, zI_sub, zI_mul, zI_neg, zI_le, zI_lt, zI_eq, Option.bind_some]
  unfold turnS szS
  split <;> congr 2 <;> omega
theorem e_between {a b : Int} (h1 : 0 ≤ a) (h2 : a ≤ 79) (h3 : 0 ≤ b) (h4 : b ≤ 79) : fX11_between (zI a) (zI b) = some (zI (turnS a b)) := by
  unfold fX11_between
  rw [zI_sub, zl_80, e_fmod (by omega) (by omega) (by omega) (by omega), Option.bind_some, zI_sub, e_min (by omega) (by omega) (by omega) (by omega), Option.bind_some]
  unfold turnS szS
  congr 2
  omega
