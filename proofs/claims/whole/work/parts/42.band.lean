/-! words by their bits -/
def wdN (f : Nat → Bool) : Nat → Nat
  | 0 => 0
  | n + 1 => wdN f n ||| (if f n then 2 ^ n else 0)
theorem wdN_bit (f : Nat → Bool) (n j : Nat) : (wdN f n).testBit j = (decide (j < n) && f j) := by
  induction n with
  | zero => simp [wdN]
  | succ n ih =>
    rw [wdN, Nat.testBit_or, ih]
    by_cases h : j = n
    · subst h
      cases f j <;> simp [Nat.testBit_two_pow_self]
    · have e : (if f n = true then 2 ^ n else 0 : Nat).testBit j = false := by
        cases f n
        · simp
        · simp only [if_true]
          rw [Nat.testBit_two_pow]
          exact decide_eq_false (by omega)
      rw [e, Bool.or_false]
      congr 1
      rcases Nat.lt_or_ge j n with q | q
      · rw [decide_eq_true q, decide_eq_true (by omega)]
      · rw [decide_eq_false (by omega), decide_eq_false (by omega)]
def wd (f : Nat → Bool) : Int32 := nI (wdN f 32)
theorem bt_wd (f : Nat → Bool) {j : Nat} (hj : j < 32) : bt (wd f) j = f j := by
  show (BitVec.ofNat 32 (wdN f 32)).getLsbD j = f j
  rw [BitVec.getLsbD_ofNat, wdN_bit]
  simp [hj]
theorem wd_ext {w : Int32} {f : Nat → Bool} (h : ∀ j, j < 32 → bt w j = f j) : w = wd f := b_ext (fun j hj => by rw [h j hj, bt_wd f hj])
theorem wd_bt (w : Int32) : wd (bt w) = w := (wd_ext (fun _ _ => rfl)).symm
theorem wd_congr {f g : Nat → Bool} (h : ∀ j, j < 32 → f j = g j) : wd f = wd g := wd_ext (fun j hj => by rw [bt_wd f hj, h j hj])
theorem wd_and (f g : Nat → Bool) : wd f &&& wd g = wd (fun j => f j && g j) := wd_ext (fun j hj => by rw [b_and, bt_wd f hj, bt_wd g hj])
theorem wd_or (f g : Nat → Bool) : wd f ||| wd g = wd (fun j => f j || g j) := wd_ext (fun j hj => by rw [b_or, bt_wd f hj, bt_wd g hj])
theorem wd_xor (f g : Nat → Bool) : wd f ^^^ wd g = wd (fun j => f j ^^ g j) := wd_ext (fun j hj => by rw [b_xor, bt_wd f hj, bt_wd g hj])
theorem wd_not (f : Nat → Bool) : wd f ^^^ (-1) = wd (fun j => !f j) := wd_ext (fun j hj => by rw [b_xor, bt_wd f hj, b_m1 j hj]; cases f j <;> rfl)
theorem wd_zero : wd (fun _ => false) = 0 := (wd_ext (fun j _ => b_0 j)).symm
theorem wd_m1 : wd (fun _ => true) = -1 := (wd_ext (fun j hj => b_m1 j hj)).symm
theorem wd_eq0 (f : Nat → Bool) : wd f = 0 ↔ ∀ j, j < 32 → f j = false := by
  constructor
  · intro h j hj
    rw [← bt_wd f hj, h, b_0]
  · intro h
    rw [← wd_zero]
    exact wd_congr h
theorem wd_inj {f g : Nat → Bool} (h : wd f = wd g) : ∀ j, j < 32 → f j = g j := fun j hj => by rw [← bt_wd f hj, h, bt_wd g hj]
theorem b_1 (i : Nat) : bt 1 i = decide (i = 0) := by
  rcases Nat.lt_or_ge i 32 with h | h
  · exact (by decide +kernel : ∀ i, i < 32 → bt 1 i = decide (i = 0)) i h
  · rw [b_big h, decide_eq_false (by omega)]
theorem wd_one {n : Nat} (hn : n < 32) : (1 : Int32) <<< (nI n &&& 31) = wd (fun j => decide (j = n)) := by
  apply wd_ext
  intro j hj
  rw [b_shl n hn _ hj, b_1]
  by_cases h : j = n
  · subst h; simp
  · by_cases h2 : n ≤ j
    · have : ¬ (j - n = 0) := by omega
      simp [h, this]
    · simp [h, h2]
/-- a bit tested by 'and' -/
theorem wd_test (f : Nat → Bool) {n : Nat} (hn : n < 32) : (wd f &&& ((1 : Int32) <<< (nI n &&& 31)) = 0) = (f n = false) := by
  rw [wd_one hn, wd_and, wd_eq0]
  apply propext
  constructor
  · intro h
    have := h n hn
    simpa using this
  · intro h j hj
    by_cases e : j = n
    · subst e; simp [h]
    · simp [e]
theorem wd_ushr (f : Nat → Bool) {n : Nat} (hn : n < 32) : ushr (wd f) (nI n) = wd (fun j => decide (n + j < 32) && f (n + j)) := by
  apply wd_ext
  intro j hj
  show bt (((wd f).toUInt32 >>> ((nI n).toUInt32 &&& Int32.toUInt32 31)).toInt32) j = _
  rw [b_ushr n hn]
  by_cases h : n + j < 32
  · rw [bt_wd f h]; simp [h]
  · rw [b_big (by omega)]; simp [h]
theorem wd_sshr (f : Nat → Bool) {n : Nat} (hn : n < 32) : wd f >>> (nI n &&& 31) = wd (fun j => if n + j < 32 then f (n + j) else f 31) := by
  apply wd_ext
  intro j hj
  rw [b_sshr n hn _ hj]
  by_cases h : n + j < 32
  · rw [if_pos h, if_pos h, bt_wd f h]
  · rw [if_neg h, if_neg h, bt_wd f (by omega)]
theorem wd_and1 (f : Nat → Bool) : wd f &&& 1 = bI (f 0) := by
  apply b_ext
  intro j hj
  rw [b_and, b_1, bt_wd f hj]
  by_cases h : j = 0
  · subst h
    cases f 0
    · simp [bI, b_0]
    · simp [bI, b_1]
  · cases f 0 <;> simp [bI, b_0, b_1, h]
theorem wd_bit (f : Nat → Bool) {n : Nat} (hn : n < 32) : ushr (wd f) (nI n) &&& 1 = bI (f n) := by
  rw [wd_ushr f hn, wd_and1]
  simp [hn]
theorem wd_sbit (f : Nat → Bool) {n : Nat} (hn : n < 32) : (wd f >>> (nI n &&& 31)) &&& 1 = bI (f n) := by
  rw [wd_sshr f hn, wd_and1]
  simp [hn]
/-! bands -/
theorem e_bits {lo hi : Int} (h1 : -1000000 ≤ lo) (h2 : lo ≤ 1000000) (h3 : -1000000 ≤ hi) (h4 : hi ≤ 1000000) : fX0_bits (zI lo) (zI hi) = some (wd fun j => decide (lo ≤ (j : Int) ∧ (j : Int) ≤ hi)) := by
  unfold fX0_bits
  have e1 : fJ9_max_7cf53 (zI lo) 0 = some (zI (max lo 0)) := e_max (b := 0) (by omega) (by omega) (by omega) (by omega)
  have e2 : fJ9_min_7cf53 (zI hi) 31 = some (zI (min hi 31)) := e_min (b := 31) (by omega) (by omega) (by omega) (by omega)
  rw [e1, Option.bind_some, e2, Option.bind_some]
  simp (disch := omega) only [zI_le]
  have e3 : (31 : Int32) - zI (min hi 31) = zI (31 - min hi 31) := zI_sub 31 _
  rw [e3]
  by_cases h : max lo 0 ≤ min hi 31
  · rw [if_pos h, zI_nat (by omega), zI_nat (a := 31 - min hi 31) (by omega)]
    congr 1
    apply wd_ext
    intro j hj
    rw [b_and, b_shl _ (by omega) _ hj, b_ushr _ (by omega)]
    by_cases p : lo ≤ (j : Int) ∧ (j : Int) ≤ hi
    · rw [decide_eq_true p, decide_eq_true (by omega), b_m1 _ (by omega), b_m1 _ (by omega)]; rfl
    · rw [decide_eq_false p]
      by_cases q : (max lo 0).toNat ≤ j
      · rw [b_big (x := -1) (i := (31 - min hi 31).toNat + j) (by omega)]; simp
      · rw [decide_eq_false q]; simp
  · rw [if_neg h]
    congr 1
    rw [← wd_zero]
    apply wd_congr
    intro j hj
    exact (decide_eq_false (by omega)).symm
/-- what the band in a memory tells, by columns -/
def BandOK (τ : qMem) (P : Int → Bool) : Prop := ∀ low : Int, -2000 ≤ low → low ≤ 2000 → fX0_column (zI low) τ = some (wd fun j => P (low + j))
theorem band_ok {τ : qMem} {P : Int → Bool} {lo hi hl hh : Int} (g0 : gi τ 62 0 = zI lo) (g1 : gi τ 62 1 = zI hi) (g2 : gi τ 62 2 = zI hl) (g3 : gi τ 62 3 = zI hh)
    (h1 : -200000 ≤ lo) (h2 : lo ≤ 200000) (h3 : -200000 ≤ hi) (h4 : hi ≤ 200000) (h5 : -200000 ≤ hl) (h6 : hl ≤ 200000) (h7 : -200000 ≤ hh) (h8 : hh ≤ 200000)
    (hP : ∀ n : Int, -3000 ≤ n → n ≤ 3000 → ((lo ≤ n ∧ n ≤ hi ∧ ¬ (hl ≤ n ∧ n ≤ hh)) ↔ P n = true)) : BandOK τ P := by
  intro low k1 k2
  unfold fX0_column fX0_column_b31
  rw [g0, g1, g2, g3, zI_sub, zI_sub, zI_sub, zI_sub, e_bits (by omega) (by omega) (by omega) (by omega), e_bits (by omega) (by omega) (by omega) (by omega), Option.bind_some, Option.bind_some, wd_not, wd_and]
  simp (disch := omega) only [zI_le]
  have key : ∀ j : Nat, j < 32 → P (low + j) = decide (lo ≤ low + j ∧ low + j ≤ hi ∧ ¬ (hl ≤ low + j ∧ low + j ≤ hh)) := by
    intro j hj
    have := hP (low + j) (by omega) (by omega)
    by_cases p : P (low + j) = true
    · rw [p, decide_eq_true (this.mpr p)]
    · rw [decide_eq_false (fun q => p (this.mp q))]
      simpa using p
  by_cases z : wd (fun j => decide (lo - low ≤ (j : Int) ∧ (j : Int) ≤ hi - low)) = 0
  · rw [if_pos z]
    congr 1
    apply wd_congr
    intro j hj
    have z1 := (wd_eq0 _).mp z j hj
    rw [z1, key j hj]
    have z2 := of_decide_eq_false z1
    exact (decide_eq_false (by omega)).symm
  · rw [if_neg z]
    by_cases q : hl ≤ hh
    · rw [if_pos q]
      congr 1
      apply wd_congr
      intro j hj
      rw [key j hj, ← decide_not, ← Bool.decide_and]
      exact decide_eq_decide.mpr (by omega)
    · rw [if_neg q]
      congr 1
      apply wd_congr
      intro j hj
      rw [key j hj]
      exact decide_eq_decide.mpr (by omega)
def towB (d err x y : Int) : Bool := decide ((x ≠ 0 ∨ y ≠ 0) ∧ turnS (roseS x y) d ≤ err)
def farB (dist off x y : Int) : Bool := decide ((dist - off ≤ 0 ∨ (dist - off) * (dist - off) ≤ x * x + y * y) ∧ x * x + y * y ≤ (dist + off) * (dist + off))
def mk4 (σ : qMem) (a b c d : Int) : qMem := si (si (si (si σ 62 0 (zI a)) 62 1 (zI b)) 62 2 (zI c)) 62 3 (zI d)
theorem e_mark (σ : qMem) (a b c d : Int) : fX0_mark (zI a) (zI b) (zI c) (zI d) σ = some (mk4 σ a b c d) := rfl
theorem mk4_fr (σ : qMem) (a b c d : Int) : Fr (fun k => k = 62) σ (mk4 σ a b c d) := Fr_si (Fr_si (Fr_si (Fr_si Fr_refl rfl) rfl) rfl) rfl
theorem mk4_0 (σ : qMem) (a b c d : Int) : gi (mk4 σ a b c d) 62 0 = zI a := by simp [mk4, gi_si]
theorem mk4_1 (σ : qMem) (a b c d : Int) : gi (mk4 σ a b c d) 62 1 = zI b := by simp [mk4, gi_si]
theorem mk4_2 (σ : qMem) (a b c d : Int) : gi (mk4 σ a b c d) 62 2 = zI c := by simp [mk4, gi_si]
theorem mk4_3 (σ : qMem) (a b c d : Int) : gi (mk4 σ a b c d) 62 3 = zI d := by simp [mk4, gi_si]
theorem mk4_ok {σ : qMem} {P : Int → Bool} {lo hi hl hh : Int}
    (h1 : -200000 ≤ lo) (h2 : lo ≤ 200000) (h3 : -200000 ≤ hi) (h4 : hi ≤ 200000) (h5 : -200000 ≤ hl) (h6 : hl ≤ 200000) (h7 : -200000 ≤ hh) (h8 : hh ≤ 200000)
    (hP : ∀ n : Int, -3000 ≤ n → n ≤ 3000 → ((lo ≤ n ∧ n ≤ hi ∧ ¬ (hl ≤ n ∧ n ≤ hh)) ↔ P n = true)) : BandOK (mk4 σ lo hi hl hh) P :=
  band_ok (mk4_0 ..) (mk4_1 ..) (mk4_2 ..) (mk4_3 ..) h1 h2 h3 h4 h5 h6 h7 h8 hP
def bordS (c e : Int) : Int := max (-10) (min 10 (30 - c)) * e / min 10 (min (c - 10) (50 - c))
theorem bord_lo {c e n : Int} (h1 : 11 ≤ c) (h2 : c ≤ 20) (he : 0 < e) : c ≤ roseS e n ↔ n ≤ bordS c e := by
  have e1 : bordS c e = 10 * e / (c - 10) := by
    unfold bordS
    rw [show max (-10) (min 10 (30 - c)) = 10 by omega, show min 10 (min (c - 10) (50 - c)) = c - 10 by omega]
  rw [e1, Int.le_ediv_iff_mul_le (by omega)]
  have hr := rose_rng e n (by omega)
  rcases rose_cases e n (by omega) with ⟨a, b, d⟩ | ⟨a, b, d⟩ | ⟨a, b, d⟩ | ⟨a, b, d⟩
  · rw [rose_N a b d]
    have := Int.le_ediv_iff_mul_le (a := c - 10) (b := 10 * e) a
    have hc : (c - 10) * n = n * (c - 10) := Int.mul_comm _ _
    omega
  · have : 20 ≤ roseS e n := by
      rw [rose_E a b d]
      have := ediv_lo (a := -10 * n) (b := e) (c := -10) a (by omega)
      omega
    have h3 : n * (c - 10) ≤ 10 * e := by
      rcases Int.lt_or_le n 0 with q | q
      · have := Int.mul_le_mul_of_nonneg_right (a := n) (b := 0) (c := c - 10) (by omega) (by omega)
        omega
      · have := Int.mul_le_mul_of_nonneg_left (a := c - 10) (b := 10) (c := n) (by omega) q
        omega
    omega
  · have : 40 ≤ roseS e n := by
      rw [rose_S a b d]
      have := ediv_lo (a := -10 * e) (b := -n) (c := -10) (by omega) (by omega)
      omega
    have h3 : n * (c - 10) ≤ 10 * e := by
      have := Int.mul_le_mul_of_nonneg_right (a := n) (b := 0) (c := c - 10) (by omega) (by omega)
      omega
    omega
  · omega
theorem bord_mid {c e n : Int} (h1 : 20 ≤ c) (h2 : c ≤ 40) (he : 0 < e) : c ≤ roseS e n ↔ n ≤ bordS c e := by
  have e1 : bordS c e = (30 - c) * e / 10 := by
    unfold bordS
    rw [show max (-10) (min 10 (30 - c)) = 30 - c by omega, show min 10 (min (c - 10) (50 - c)) = 10 by omega]
  rw [e1, Int.le_ediv_iff_mul_le (by omega)]
  have hq : (c - 30) * e = -((30 - c) * e) := by rw [← Int.neg_mul]; congr 1; omega
  have b1 := Int.mul_le_mul_of_nonneg_right (a := 30 - c) (b := 10) (c := e) (by omega) (by omega)
  have b2 := Int.mul_le_mul_of_nonneg_right (a := -10) (b := 30 - c) (c := e) (by omega) (by omega)
  rcases rose_cases e n (by omega) with ⟨a, b, d⟩ | ⟨a, b, d⟩ | ⟨a, b, d⟩ | ⟨a, b, d⟩
  · rw [rose_N a b d]
    have := ediv_hi (a := 10 * e) (b := n) (c := 10) a (by omega)
    omega
  · rw [rose_E a b d]
    have := Int.le_ediv_iff_mul_le (a := c - 30) (b := -10 * n) a
    omega
  · rw [rose_S a b d]
    have := ediv_lo (a := -10 * e) (b := -n) (c := -10) (by omega) (by omega)
    omega
  · omega
theorem bord_hi {c e n : Int} (h1 : 41 ≤ c) (h2 : c ≤ 49) (he : 0 < e) : c ≤ roseS e n ↔ n ≤ bordS c e := by
  have e1 : bordS c e = -10 * e / (50 - c) := by
    unfold bordS
    rw [show max (-10) (min 10 (30 - c)) = -10 by omega, show min 10 (min (c - 10) (50 - c)) = 50 - c by omega]
  rw [e1, Int.le_ediv_iff_mul_le (by omega)]
  rcases rose_cases e n (by omega) with ⟨a, b, d⟩ | ⟨a, b, d⟩ | ⟨a, b, d⟩ | ⟨a, b, d⟩
  · rw [rose_N a b d]
    have h3 := ediv_hi (a := 10 * e) (b := n) (c := 10) a (by omega)
    have := Int.mul_nonneg (a := n) (b := 50 - c) (by omega) (by omega)
    omega
  · rw [rose_E a b d]
    have h3 := ediv_hi (a := -10 * n) (b := e) (c := 10) a (by omega)
    have h4 : -10 * e < n * (50 - c) := by
      rcases Int.lt_or_le n 0 with q | q
      · have := Int.mul_le_mul_of_nonpos_left (a := n) (b := 9) (c := 50 - c) (by omega) (by omega)
        omega
      · have := Int.mul_nonneg (a := n) (b := 50 - c) (by omega) (by omega)
        omega
    omega
  · rw [rose_S a b d]
    have := Int.le_ediv_iff_mul_le (a := c - 50) (b := -10 * e) (c := -n) (by omega)
    have hc : (c - 50) * -n = n * (50 - c) := by rw [Int.mul_comm, Int.neg_mul, ← Int.mul_neg]; congr 1; omega
    omega
  · omega
theorem bord_ok {c e n : Int} (h1 : 11 ≤ c) (h2 : c ≤ 49) (he : 0 < e) : c ≤ roseS e n ↔ n ≤ bordS c e := by
  rcases (by omega : c ≤ 20 ∨ (20 ≤ c ∧ c ≤ 40) ∨ 41 ≤ c) with q | q | q
  · exact bord_lo h1 q he
  · exact bord_mid q.1 q.2 he
  · exact bord_hi q h2 he
theorem bord_rng {c e : Int} (h1 : 11 ≤ c) (h2 : c ≤ 49) (he : 0 < e) : -10 * e ≤ bordS c e ∧ bordS c e ≤ 10 * e := by
  have a : 0 < min 10 (min (c - 10) (50 - c)) := by omega
  have b1 := Int.mul_le_mul_of_nonneg_right (a := max (-10) (min 10 (30 - c))) (b := 10) (c := e) (by omega) (by omega)
  have b2 := Int.mul_le_mul_of_nonneg_right (a := -10) (b := max (-10) (min 10 (30 - c))) (c := e) (by omega) (by omega)
  unfold bordS
  generalize min 10 (min (c - 10) (50 - c)) = p at *
  generalize max (-10) (min 10 (30 - c)) * e = z at *
  constructor
  · apply ediv_lo a
    have := Int.mul_le_mul_of_nonpos_left (a := -10 * e) (b := p) (c := 1) (by omega) (by omega)
    omega
  · apply Int.lt_add_one_iff.mp
    apply ediv_hi a
    have := Int.mul_le_mul_of_nonneg_left (a := 1) (b := p) (c := 10 * e + 1) (by omega) (by omega)
    omega
theorem e_border {c e : Int} (h1 : 11 ≤ c) (h2 : c ≤ 49) (he : 0 < e) (h3 : e ≤ 1000) : fX0_border (zI c) (zI e) = some (zI (bordS c e)) := by
  have b1 := Int.mul_le_mul_of_nonneg_right (a := max (-10) (min 10 (30 - c))) (b := 10) (c := e) (by omega) (by omega)
  have b2 := Int.mul_le_mul_of_nonneg_right (a := -10) (b := max (-10) (min 10 (30 - c))) (c := e) (by omega) (by omega)
  unfold fX0_border bordS
  simp (disch := omega) only [zl_0, zl_1, zl_2, zl_3, zl_4, zl_5, zl_6, zl_7, zl_8, zl_9, zl_10, zl_11, zl_12, zl_13, zl_14, zl_15, zl_16, zl_17, zl_18, zl_19, zl_20, zl_21, zl_22, zl_23, zl_24, zl_25, zl_26, zl_27, zl_28, zl_29, zl_30, zl_31, zl_32, zl_33, zl_34, zl_35, zl_36, zl_37, zl_38, zl_39, zl_40, zl_41, zl_42, zl_43, zl_44, zl_45, zl_46, zl_47, zl_48, zl_49, zl_50, zl_51, zl_57, zl_59, zl_60, zl_61, zl_62, zl_63, zl_64, zl_65, zl_66, zl_67, zl_68, zl_69, zl_70, zl_71, zl_72, zl_73, zl_74, zl_75, zl_76, zl_77, zl_78, zl_79, zl_80, zl_81, zl_86, zl_87, zl_88, zl_89, zl_91, zl_93, zl_97, zl_99, zl_100, zl_108, zl_110, zl_122, zl_144, zl_152, zl_188, zl_199, zl_200, zl_201, zl_204, zl_220, zl_224, zl_226, zl_238, zl_255, zl_268, zl_300, zl_301, zl_302, zl_303, zl_304, zl_305, zl_306, zl_307, zl_308, zl_309, zl_310, zl_312, zl_400, zl_401, zl_712, zl_768, zl_1000, zl_1112, zl_1500, zl_1568, zl_2224, zl_3000, zl_20100, zl_50176, zl_60000, zl_100000, zl_117648, zl_1000000, zl_10000000, zl_1000000000, zI_sub, zI_neg, e_min, e_max, Option.bind_some, zI_mul, zI_lt]
  rw [if_pos (by omega), e_fdiv (by omega) (by omega) (by omega) (by omega)]
  rfl
theorem turn_arc {r d err s : Int} (hr : 0 ≤ r) (hr2 : r ≤ 79) (hd : 0 ≤ d) (hd2 : d ≤ 79) (he : 0 ≤ err) (he2 : err ≤ 20) (hs : s = (d - err) % 80) : turnS r d ≤ err ↔ (s ≤ r ∧ r ≤ s + 2 * err) ∨ (s - 80 ≤ r ∧ r ≤ s + 2 * err - 80) := by
  unfold turnS szS
  omega
/-- an arc at ways east -/
theorem arc_E {d err e n from_ to_ : Int} (hd : 0 ≤ d) (hd2 : d ≤ 79) (he : 0 ≤ err) (he2 : err ≤ 20) (h1 : 0 < e)
    (hf : (from_ = max ((d - err) % 80) 10 ∧ to_ = min ((d - err) % 80 + 2 * err) 49 ∧ from_ ≤ to_) ∨ (max ((d - err) % 80) 10 > min ((d - err) % 80 + 2 * err) 49 ∧ from_ = max ((d - err) % 80 - 80) 10 ∧ to_ = min ((d - err) % 80 + 2 * err - 80) 49)) :
    turnS (roseS e n) d ≤ err ↔ (from_ ≤ roseS e n ∧ roseS e n ≤ to_) := by
  have hr : 10 ≤ roseS e n ∧ roseS e n ≤ 49 := by
    rcases rose_cases e n (by omega) with ⟨a, b, c⟩ | ⟨a, b, c⟩ | ⟨a, b, c⟩ | ⟨a, b, c⟩
    · rw [rose_N a b c]
      have h3 := ediv_lo (a := 10 * e) (b := n) (c := 0) a (by omega)
      have h4 := ediv_hi (a := 10 * e) (b := n) (c := 10) a (by omega)
      omega
    · rw [rose_E a b c]
      have h3 := ediv_lo (a := -10 * n) (b := e) (c := -10) a (by omega)
      have h4 := ediv_hi (a := -10 * n) (b := e) (c := 10) a (by omega)
      omega
    · rw [rose_S a b c]
      have h3 := ediv_lo (a := -10 * e) (b := -n) (c := -10) (by omega) (by omega)
      have h4 := ediv_hi (a := -10 * e) (b := -n) (c := 0) (by omega) (by omega)
      omega
    · omega
  rw [turn_arc (by omega) (by omega) hd hd2 he he2 rfl]
  omega
def arcHigh (f t e : Int) : Int := if t < f then -100000 else if f = 10 then 100000 else bordS f e
def arcLow (f t e : Int) : Int := if t < f then 100000 else if t = 49 then -100000 else bordS (t + 1) e + 1
theorem arc_band {f t e n : Int} (h1 : 0 < e) (h2 : e ≤ 1000) (hf : 10 ≤ f) (ht : t ≤ 49) (hn : -3000 ≤ n) (hn2 : n ≤ 3000) : (f ≤ roseS e n ∧ roseS e n ≤ t) ↔ (arcLow f t e ≤ n ∧ n ≤ arcHigh f t e) := by
  have hr : 10 ≤ roseS e n ∧ roseS e n ≤ 49 := by
    rcases rose_cases e n (by omega) with ⟨a, b, c⟩ | ⟨a, b, c⟩ | ⟨a, b, c⟩ | ⟨a, b, c⟩
    · rw [rose_N a b c]
      have h3 := ediv_lo (a := 10 * e) (b := n) (c := 0) a (by omega)
      have h4 := ediv_hi (a := 10 * e) (b := n) (c := 10) a (by omega)
      omega
    · rw [rose_E a b c]
      have h3 := ediv_lo (a := -10 * n) (b := e) (c := -10) a (by omega)
      have h4 := ediv_hi (a := -10 * n) (b := e) (c := 10) a (by omega)
      omega
    · rw [rose_S a b c]
      have h3 := ediv_lo (a := -10 * e) (b := -n) (c := -10) (by omega) (by omega)
      have h4 := ediv_hi (a := -10 * e) (b := -n) (c := 0) (by omega) (by omega)
      omega
    · omega
  unfold arcLow arcHigh
  by_cases h : t < f
  · simp only [h, if_true]
    omega
  · simp only [h, if_false]
    have k1 : f ≤ roseS e n ↔ n ≤ (if f = 10 then 100000 else bordS f e) := by
      by_cases q : f = 10
      · rw [if_pos q]; omega
      · rw [if_neg q]; exact bord_ok (by omega) (by omega) h1
    have k2 : roseS e n ≤ t ↔ (if t = 49 then -100000 else bordS (t + 1) e + 1) ≤ n := by
      by_cases q : t = 49
      · rw [if_pos q]; omega
      · rw [if_neg q]
        have := bord_ok (c := t + 1) (e := e) (n := n) (by omega) (by omega) h1
        omega
    rw [k1, k2, And.comm]
theorem arc_rng {f t e : Int} (h1 : 0 < e) (h2 : e ≤ 1000) (hf : 10 ≤ f) (ht : t ≤ 49) : -100001 ≤ arcLow f t e ∧ arcLow f t e ≤ 100001 ∧ -100001 ≤ arcHigh f t e ∧ arcHigh f t e ≤ 100001 := by
  unfold arcLow arcHigh
  by_cases h : t < f
  · simp only [h, if_true]; omega
  · simp only [h, if_false]
    have k1 : -100001 ≤ (if t = 49 then -100000 else bordS (t + 1) e + 1) ∧ (if t = 49 then -100000 else bordS (t + 1) e + 1) ≤ 100001 := by
      by_cases q : t = 49
      · rw [if_pos q]; omega
      · rw [if_neg q]
        have := bord_rng (c := t + 1) (e := e) (by omega) (by omega) h1
        omega
    have k2 : -100001 ≤ (if f = 10 then 100000 else bordS f e) ∧ (if f = 10 then 100000 else bordS f e) ≤ 100001 := by
      by_cases q : f = 10
      · rw [if_pos q]; omega
      · rw [if_neg q]
        have := bord_rng (c := f) (e := e) (by omega) (by omega) h1
        omega
    exact ⟨k1.1, k1.2, k2.1, k2.2⟩
theorem e_arc145 {e f t : Int} (σ : qMem) (h1 : e ≠ 0) (h2 : -1000 ≤ e) (h3 : e ≤ 1000) (hf : 10 ≤ f) (hf2 : f ≤ 200) (ht : t ≤ 49) (ht2 : -200 ≤ t) :
    fX0_arc_b145 (zI e) (zI f) (zI t) σ = some (if 0 < e then mk4 σ (arcLow f t e) (arcHigh f t e) 0 (-1) else mk4 σ (-arcHigh f t (-e)) (-arcLow f t (-e)) 0 (-1)) := by
  have key : ∀ w lo hi : Int, fX0_arc_b219 (zI w) (zI hi) (zI lo) σ = some (if 0 < w then mk4 σ lo hi 0 (-1) else mk4 σ (-hi) (-lo) 0 (-1)) → True := fun _ _ _ _ => trivial
  have h219 : ∀ hi lo : Int, fX0_arc_b219 (zI e) (zI hi) (zI lo) σ = some (if 0 < e then mk4 σ lo hi 0 (-1) else mk4 σ (-hi) (-lo) 0 (-1)) := by
    intro hi lo
    unfold fX0_arc_b219 fX0_arc_b234 fX0_arc_b246
    simp (disch := omega) only [zl_0, zl_1, zI_neg, zI_le]
    by_cases q : 0 < e
    · have q2 : ¬ e ≤ 0 := by omega
      simp only [q, q2, if_true, if_false, e_mark, Option.bind_some]
    · have q2 : e ≤ 0 := by omega
      simp only [q, q2, if_true, if_false, e_mark, Option.bind_some]
  have h182 : ∀ hi w : Int, 0 < w → w ≤ 1000 → fX0_arc_b182 (zI e) (zI f) (zI t) (zI w) (zI hi) σ = some (if 0 < e then mk4 σ (arcLow f t w) hi 0 (-1) else mk4 σ (-hi) (-arcLow f t w) 0 (-1)) := by
    intro hi w hw hw2
    unfold fX0_arc_b182 arcLow
    simp (disch := omega) only [zl_1, zl_49, zl_100000, zI_neg, zI_le, zI_eq, zI_add]
    by_cases q : t < f
    · rw [if_neg (by omega), h219]
      simp only [q, if_true]
    · rw [if_pos (by omega)]
      simp only [q, if_false]
      by_cases q2 : t = 49
      · simp only [q2, if_true]
        rw [h219]
      · simp only [q2, if_false]
        rw [e_border (by omega) (by omega) hw hw2, Option.bind_some, zI_add, h219]
  have hw : max e (-e) = if 0 < e then e else -e := by split <;> omega
  unfold fX0_arc_b145
  rw [e_abs (by omega) (by omega), Option.bind_some, hw]
  have hgen : ∀ w : Int, 0 < w → w ≤ 1000 → (if zI f ≤ zI t then (if zI f = 10 then (fX0_arc_b182 (zI e) (zI f) (zI t) (zI w) 100000 σ) else ((fX0_border (zI f) (zI w)).bind fun y10 => (fX0_arc_b182 (zI e) (zI f) (zI t) (zI w) y10 σ))) else (fX0_arc_b182 (zI e) (zI f) (zI t) (zI w) (-100000) σ)) = some (if 0 < e then mk4 σ (arcLow f t w) (arcHigh f t w) 0 (-1) else mk4 σ (-arcHigh f t w) (-arcLow f t w) 0 (-1)) := by
    intro w hw hw2
    simp (disch := omega) only [zl_10, zl_100000, zI_neg, zI_le, zI_eq]
    unfold arcHigh
    by_cases q : t < f
    · rw [if_neg (by omega), h182 _ _ hw hw2]
      simp only [q, if_true]
    · rw [if_pos (by omega)]
      simp only [q, if_false]
      by_cases q2 : f = 10
      · simp only [q2, if_true]
        subst q2
        rw [h182 _ _ hw hw2]
      · simp only [q2, if_false]
        rw [e_border (by omega) (by omega) hw hw2, Option.bind_some, h182 _ _ hw hw2]
  by_cases q : 0 < e
  · simp only [q, if_true] at hgen ⊢
    exact hgen e q h3
  · simp only [q, if_false] at hgen ⊢
    exact hgen (-e) (by omega) (by omega)
theorem towB_neg {d err x y : Int} (hd : 0 ≤ d) (hd2 : d ≤ 79) (he : 0 ≤ err) (he2 : err ≤ 20) (h : x ≠ 0) : turnS (roseS x y) d ≤ err ↔ turnS (roseS (-x) (-y)) ((d + 40) % 80) ≤ err := by
  have hr := rose_rng x y (Or.inl h)
  rw [rose_half x y (Or.inl h)]
  unfold turnS szS
  omega
theorem e_arc {d err e : Int} (σ : qMem) (hd : 0 ≤ d) (hd2 : d ≤ 79) (he : 0 ≤ err) (he2 : err ≤ 20) (h2 : -1000 ≤ e) (h3 : e ≤ 1000) :
    Ho (fX0_arc (zI d) (zI err) (zI e) σ) (fun τ => Fr (fun k => k = 62) σ τ ∧ BandOK τ (towB d err e)) := by
  unfold fX0_arc
  by_cases h0 : e = 0
  · subst h0
    have c0 : (zI 0 = 0) = True := by simp [← zl_0]
    simp only [c0, if_true]
    rw [show (10 : Int32) = zI 10 from rfl, e_between hd hd2 (by omega) (by omega), Option.bind_some]
    have hb : ∀ u0 : Int, u0 = 0 ∨ u0 = 1 → fX0_arc_b19 (zI d) (zI err) (zI u0) σ = some (mk4 σ (if turnS d 50 ≤ err then -100000 else 1) (if u0 = 0 then -1 else 100000) 0 0) := by
      intro u0 hu
      unfold fX0_arc_b19
      have ht : -80 ≤ turnS d 50 ∧ turnS d 50 ≤ 80 := by unfold turnS szS; omega
      rw [show (50 : Int32) = zI 50 from rfl, e_between hd hd2 (by omega) (by omega), Option.bind_some]
      unfold fX0_arc_b36 fX0_arc_b50 fX0_arc_b61
      simp (disch := omega) only [zl_0, zl_1, zl_100000, zI_neg, zI_lt, zI_eq, e_mark, Option.bind_some]
      by_cases q : err < turnS d 50
      · have q2 : ¬ turnS d 50 ≤ err := by omega
        by_cases q3 : u0 = 0
        · simp [q, q2, q3]
        · simp [q, q2, q3]
      · have q2 : turnS d 50 ≤ err := by omega
        by_cases q3 : u0 = 0
        · simp [q, q2, q3]
        · simp [q, q2, q3]
    have ht : -80 ≤ turnS d 10 ∧ turnS d 10 ≤ 80 := by unfold turnS szS; omega
    have e2 : (if zI err < zI (turnS d 10) then fX0_arc_b19 (zI d) (zI err) 0 σ else fX0_arc_b19 (zI d) (zI err) 1 σ) = some (mk4 σ (if turnS d 50 ≤ err then -100000 else 1) (if turnS d 10 ≤ err then 100000 else -1) 0 0) := by
      simp (disch := omega) only [zl_0, zl_1, zI_lt]
      by_cases q : err < turnS d 10
      · rw [if_pos q, hb 0 (Or.inl rfl)]
        have q2 : ¬ turnS d 10 ≤ err := by omega
        simp [q2]
      · rw [if_neg q, hb 1 (Or.inr rfl)]
        have q2 : turnS d 10 ≤ err := by omega
        simp [q2]
    rw [e2]
    refine Ho_some ⟨mk4_fr .., mk4_ok (by split <;> omega) (by split <;> omega) (by split <;> omega) (by split <;> omega) (by omega) (by omega) (by omega) (by omega) ?_⟩
    intro n hn hn2
    unfold towB
    rw [decide_eq_true_iff]
    have t1 : turnS 10 d = turnS d 10 := by unfold turnS szS; omega
    have t2 : turnS 50 d = turnS d 50 := by unfold turnS szS; omega
    rcases (by omega : n = 0 ∨ 0 < n ∨ n < 0) with q | q | q
    · subst q; simp
    · have r1 : roseS 0 n = 10 := by rw [rose_N q (by omega) q]; simp
      rw [r1, t1]
      split <;> split <;> omega
    · have r1 : roseS 0 n = 50 := by rw [rose_S q q (by omega)]; simp
      rw [r1, t2]
      split <;> split <;> omega
  · have c0 : (zI e = 0) = False := by
      apply propext
      constructor
      · intro h
        rw [zl_0, zI_eq (by omega) (by omega) (by omega) (by omega)] at h
        exact h0 h
      · intro h; exact h.elim
    simp only [c0, if_false]
    have h79 : ∀ u : Int, 0 ≤ u → u ≤ 200 → ∃ f t : Int, 10 ≤ f ∧ f ≤ 200 ∧ t ≤ 49 ∧ -200 ≤ t ∧ fX0_arc_b79 (zI err) (zI e) (zI u) σ = some (if 0 < e then mk4 σ (arcLow f t e) (arcHigh f t e) 0 (-1) else mk4 σ (-arcHigh f t (-e)) (-arcLow f t (-e)) 0 (-1)) ∧ ((f = max ((u - err) % 80) 10 ∧ t = min ((u - err) % 80 + 2 * err) 49 ∧ f ≤ t) ∨ (max ((u - err) % 80) 10 > min ((u - err) % 80 + 2 * err) 49 ∧ f = max ((u - err) % 80 - 80) 10 ∧ t = min ((u - err) % 80 + 2 * err - 80) 49)) := by
      intro u hu hu2
      unfold fX0_arc_b79
      rw [zI_sub, show (80 : Int32) = zI 80 from rfl, e_fmod (by omega) (by omega) (by omega) (by omega), Option.bind_some, show (10 : Int32) = zI 10 from rfl, e_max (by omega) (by omega) (by omega) (by omega), Option.bind_some, show (2 : Int32) = zI 2 from rfl, zI_mul, zI_add, show (49 : Int32) = zI 49 from rfl, e_min (by omega) (by omega) (by omega) (by omega), Option.bind_some, zI_sub, e_max (by omega) (by omega) (by omega) (by omega), Option.bind_some, zI_sub, e_min (by omega) (by omega) (by omega) (by omega), Option.bind_some]
      by_cases q : max ((u - err) % 80) 10 ≤ min ((u - err) % 80 + 2 * err) 49
      · refine ⟨_, _, ?_, ?_, ?_, ?_, ?_, Or.inl ⟨rfl, rfl, q⟩⟩
        · omega
        · omega
        · omega
        · omega
        · simp (disch := omega) only [zI_le]
          rw [if_pos q, e_arc145 σ h0 h2 h3 (by omega) (by omega) (by omega) (by omega)]
      · refine ⟨_, _, ?_, ?_, ?_, ?_, ?_, Or.inr ⟨by omega, rfl, rfl⟩⟩
        · omega
        · omega
        · omega
        · omega
        · simp (disch := omega) only [zI_le]
          rw [if_neg q, e_arc145 σ h0 h2 h3 (by omega) (by omega) (by omega) (by omega)]
    by_cases hpos : 0 < e
    · have c1 : (zI e ≤ 0) = False := by
        apply propext
        constructor
        · intro h
          rw [zl_0, zI_le (by omega) (by omega) (by omega) (by omega)] at h
          omega
        · intro h; exact h.elim
      simp only [c1, if_false]
      obtain ⟨f, t, hf, hf2, ht, ht2, ee, hor⟩ := h79 d hd (by omega)
      rw [ee, if_pos hpos]
      have hrng := arc_rng (f := f) (t := t) hpos h3 hf ht
      refine Ho_some ⟨mk4_fr .., mk4_ok (by omega) (by omega) (by omega) (by omega) (by omega) (by omega) (by omega) (by omega) ?_⟩
      intro n hn hn2
      unfold towB
      rw [decide_eq_true_iff, arc_E hd hd2 he he2 hpos hor, arc_band hpos h3 hf ht hn hn2]
      omega
    · have c1 : (zI e ≤ 0) = True := by
        apply propext
        constructor
        · intro _; trivial
        · intro _
          rw [zl_0, zI_le (by omega) (by omega) (by omega) (by omega)]
          omega
      simp only [c1, if_true]
      rw [show (40 : Int32) = zI 40 from rfl, zI_add]
      obtain ⟨f, t, hf, hf2, ht, ht2, ee, hor⟩ := h79 (d + 40) (by omega) (by omega)
      rw [ee, if_neg hpos]
      have hrng := arc_rng (f := f) (t := t) (e := -e) (by omega) (by omega) hf ht
      refine Ho_some ⟨mk4_fr .., mk4_ok (by omega) (by omega) (by omega) (by omega) (by omega) (by omega) (by omega) (by omega) ?_⟩
      intro n hn hn2
      unfold towB
      have hmod : ((d + 40) % 80 - err) % 80 = (d + 40 - err) % 80 := by omega
      rw [decide_eq_true_iff, towB_neg hd hd2 he he2 h0, arc_E (from_ := f) (to_ := t) (by omega) (by omega) he he2 (by omega) (by rw [hmod]; exact hor), arc_band (by omega) (by omega) hf ht (by omega) (by omega)]
      omega
/-! circles -/
theorem e_root1 {s f b : Int} (N : Nat) (n : Nat) (h1 : 0 ≤ s) (h2 : s ≤ 100000) (h3 : 0 ≤ f) (h4 : f ≤ 200) (h5 : 0 < b) (h6 : b ≤ 64) :
    fX0_root_l11 N (n + 1) (zI s) (zI f) (zI b) = fX0_root_l11 N n (zI s) (zI (if (f + b) * (f + b) ≤ s then f + b else f)) (zI (b / 2)) := by
  have hsq : 0 ≤ (f + b) * (f + b) := Int.mul_nonneg (by omega) (by omega)
  have hsq2 : (f + b) * (f + b) ≤ 300 * 300 := Int.mul_le_mul (by omega) (by omega) (by omega) (by omega)
  have hs : zI b >>> ((1 : Int32) &&& 31) = zI (b / 2) := by
    rw [zI_nat (a := b) (by omega), pk_shrN (by omega) _ 1 (by decide), zI_nat (a := b / 2) (by omega)]
    congr 1
    omega
  show fX0_root_s11 N (fX0_root_l11 N n) (zI s) (zI f) (zI b) = _
  unfold fX0_root_s11 fX0_root_b30
  rw [hs]
  have c0 : (zI b ≤ 0) = False := by
    apply propext
    constructor
    · intro h
      rw [zl_0, zI_le (by omega) (by omega) (by omega) (by omega)] at h
      omega
    · intro h; exact h.elim
  simp (disch := omega) only [c0, if_false, zI_add, zI_mul, zI_lt]
  by_cases q : (f + b) * (f + b) ≤ s
  · rw [if_neg (by omega), if_pos q]
  · rw [if_pos (by omega), if_neg q]
theorem root_step {s f b : Int} (h3 : 0 ≤ f) (h : f * f ≤ s ∧ s < (f + 2 * b) * (f + 2 * b)) : (if (f + b) * (f + b) ≤ s then f + b else f) * (if (f + b) * (f + b) ≤ s then f + b else f) ≤ s ∧ s < ((if (f + b) * (f + b) ≤ s then f + b else f) + b) * ((if (f + b) * (f + b) ≤ s then f + b else f) + b) := by
  by_cases q : (f + b) * (f + b) ≤ s
  · rw [if_pos q]
    refine ⟨q, ?_⟩
    have : f + b + b = f + 2 * b := by omega
    rw [this]
    exact h.2
  · rw [if_neg q]
    exact ⟨h.1, by omega⟩
theorem e_root {s : Int} {N : Nat} (hN : 200000 ≤ N) (h1 : 0 ≤ s) (h2 : s < 16384) : ∃ r : Int, fX0_root N (zI s) = some (zI r) ∧ 0 ≤ r ∧ r ≤ 127 ∧ r * r ≤ s ∧ s < (r + 1) * (r + 1) := by
  obtain ⟨n, rfl⟩ : ∃ n, N = n + 8 := ⟨N - 8, by omega⟩
  unfold fX0_root
  have c0 : (0 ≤ zI s) = True := by
    apply propext
    constructor
    · intro _; trivial
    · intro _
      rw [zl_0, zI_le (by omega) (by omega) (by omega) (by omega)]
      omega
  simp only [c0, if_true]
  have st : ∀ (k : Nat) (f b : Int), 0 ≤ f → f + 2 * b ≤ 128 → 0 < b → b ≤ 64 → f * f ≤ s ∧ s < (f + 2 * b) * (f + 2 * b) → ∃ g : Int, 0 ≤ g ∧ g + b ≤ 128 ∧ g * g ≤ s ∧ s < (g + b) * (g + b) ∧ fX0_root_l11 (n + 8) (k + 1) (zI s) (zI f) (zI b) = fX0_root_l11 (n + 8) k (zI s) (zI g) (zI (b / 2)) := by
    intro k f b p1 p2 p3 p4 p5
    have := root_step p1 p5
    refine ⟨_, ?_, ?_, this.1, this.2, e_root1 (n + 8) k h1 (by omega) p1 (by omega) p3 p4⟩
    · split <;> omega
    · split <;> omega
  obtain ⟨g1, a1, b1, c1, d1, e1⟩ := st (n + 7) 0 64 (by omega) (by omega) (by omega) (by omega) ⟨by omega, by omega⟩
  obtain ⟨g2, a2, b2, c2, d2, e2⟩ := st (n + 6) g1 32 (by omega) (by omega) (by omega) (by omega) ⟨c1, d1⟩
  obtain ⟨g3, a3, b3, c3, d3, e3⟩ := st (n + 5) g2 16 (by omega) (by omega) (by omega) (by omega) ⟨c2, d2⟩
  obtain ⟨g4, a4, b4, c4, d4, e4⟩ := st (n + 4) g3 8 (by omega) (by omega) (by omega) (by omega) ⟨c3, d3⟩
  obtain ⟨g5, a5, b5, c5, d5, e5⟩ := st (n + 3) g4 4 (by omega) (by omega) (by omega) (by omega) ⟨c4, d4⟩
  obtain ⟨g6, a6, b6, c6, d6, e6⟩ := st (n + 2) g5 2 (by omega) (by omega) (by omega) (by omega) ⟨c5, d5⟩
  obtain ⟨g7, a7, b7, c7, d7, e7⟩ := st (n + 1) g6 1 (by omega) (by omega) (by omega) (by omega) ⟨c6, d6⟩
  refine ⟨g7, ?_, a7, by omega, c7, d7⟩
  show fX0_root_l11 (n + 8) (n + 7 + 1) (zI s) (zI 0) (zI 64) = _
  rw [e1, show (64 : Int) / 2 = 32 from rfl, e2, show (32 : Int) / 2 = 16 from rfl, e3, show (16 : Int) / 2 = 8 from rfl, e4, show (8 : Int) / 2 = 4 from rfl, e5, show (4 : Int) / 2 = 2 from rfl, e6, show (2 : Int) / 2 = 1 from rfl, e7, show (1 : Int) / 2 = 0 from rfl]
  rfl
theorem sq_le {a b : Int} (ha : 0 ≤ a) (h : a ≤ b) : a * a ≤ b * b := Int.mul_le_mul h h ha (by omega)
theorem sq_abs (n : Int) : szS n * szS n = n * n := by
  unfold szS
  rcases (by omega : max n (-n) = n ∨ max n (-n) = -n) with h | h <;> rw [h]
  rw [Int.neg_mul_neg]
/-- within a root, by squares -/
theorem root_in {s r n : Int} (h0 : 0 ≤ r) (h1 : r * r ≤ s) (h2 : s < (r + 1) * (r + 1)) : (-r ≤ n ∧ n ≤ r) ↔ n * n ≤ s := by
  have hs := sq_abs n
  have hn : 0 ≤ szS n := by unfold szS; omega
  have e : (-r ≤ n ∧ n ≤ r) ↔ szS n ≤ r := by unfold szS; omega
  rw [e, ← hs]
  constructor
  · intro h
    have := sq_le hn h
    omega
  · intro h
    rcases Int.lt_or_le r (szS n) with q | q
    · have := sq_le (a := r + 1) (b := szS n) (by omega) (by omega)
      omega
    · exact q
theorem e_rootx {s : Int} {N : Nat} (hN : 200000 ≤ N) (h1 : -2000000 ≤ s) (h2 : s < 16384) : ∃ r : Int, fX0_root N (zI s) = some (zI r) ∧ -1 ≤ r ∧ r ≤ 127 ∧ ∀ n : Int, ((-r ≤ n ∧ n ≤ r) ↔ n * n ≤ s) := by
  by_cases h : 0 ≤ s
  · obtain ⟨r, a, b, c, d, e⟩ := e_root hN h h2
    exact ⟨r, a, by omega, c, fun n => root_in b d e⟩
  · refine ⟨-1, ?_, by omega, by omega, fun n => ?_⟩
    · unfold fX0_root
      have c0 : (0 ≤ zI s) = False := by
        apply propext
        constructor
        · intro q
          rw [zl_0, zI_le (by omega) (by omega) (by omega) (by omega)] at q
          omega
        · intro h; exact h.elim
      simp only [c0, if_false]
      rfl
    · have : 0 ≤ n * n := by rw [← sq_abs]; exact Int.mul_nonneg (by unfold szS; omega) (by unfold szS; omega)
      omega
theorem e_circle {d off e : Int} {N : Nat} (hN : 200000 ≤ N) (σ : qMem) (hd : 0 ≤ d) (hd2 : d ≤ 99) (he : 0 ≤ off) (he2 : off ≤ 9) (h2 : -1000 ≤ e) (h3 : e ≤ 1000) :
    Ho (fX0_circle N (zI d) (zI off) (zI e) σ) (fun τ => Fr (fun k => k = 62) σ τ ∧ BandOK τ (farB d off e)) := by
  unfold fX0_circle
  have q1 : (d + off) * (d + off) ≤ 108 * 108 := sq_le (by omega) (by omega)
  have q2 : 0 ≤ (d + off) * (d + off) := Int.mul_nonneg (by omega) (by omega)
  have q3 : max 0 (d - off) * max 0 (d - off) ≤ 99 * 99 := sq_le (by omega) (by omega)
  have q4 : 0 ≤ max 0 (d - off) * max 0 (d - off) := Int.mul_nonneg (by omega) (by omega)
  have q5 : e * e ≤ 1000 * 1000 := by rw [← sq_abs]; exact sq_le (by unfold szS; omega) (by unfold szS; omega)
  have q6 : 0 ≤ e * e := by rw [← sq_abs]; exact Int.mul_nonneg (by unfold szS; omega) (by unfold szS; omega)
  rw [zI_sub, show (0 : Int32) = zI 0 from rfl, e_max (by omega) (by omega) (by omega) (by omega), Option.bind_some, zI_add, zI_mul, zI_mul, zI_sub]
  obtain ⟨r1, a1, b1, c1, d1⟩ := e_rootx hN (s := (d + off) * (d + off) - e * e) (by omega) (by omega)
  rw [a1, Option.bind_some, zI_mul, zI_sub, show (1 : Int32) = zI 1 from rfl, zI_sub]
  obtain ⟨r2, a2, b2, c2, d2⟩ := e_rootx hN (s := max 0 (d - off) * max 0 (d - off) - e * e - 1) (by omega) (by omega)
  rw [a2, Option.bind_some, zI_neg, zI_neg, e_mark, Option.bind_some]
  refine Ho_some ⟨mk4_fr .., mk4_ok (by omega) (by omega) (by omega) (by omega) (by omega) (by omega) (by omega) (by omega) ?_⟩
  intro n hn hn2
  have k1 := d1 n
  have k2 := d2 n
  unfold farB
  rw [decide_eq_true_iff]
  have k3 : (d - off ≤ 0 ∨ (d - off) * (d - off) ≤ e * e + n * n) ↔ ¬ (n * n ≤ max 0 (d - off) * max 0 (d - off) - e * e - 1) := by
    have q7 : 0 ≤ n * n := by rw [← sq_abs]; exact Int.mul_nonneg (by unfold szS; omega) (by unfold szS; omega)
    rcases (by omega : d - off ≤ 0 ∨ 0 < d - off) with q | q
    · rw [show max 0 (d - off) = 0 by omega]
      omega
    · rw [show max 0 (d - off) = d - off by omega]
      omega
  rw [k3, ← k2]
  omega
