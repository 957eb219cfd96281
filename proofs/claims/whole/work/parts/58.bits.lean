/-! bitCount -/
theorem and_step (k r s a m : Nat) (hr : r < 2 ^ k) (hs : s < 2 ^ k) : (r + 2 ^ k * a) &&& (s + 2 ^ k * m) = (r &&& s) + 2 ^ k * (a &&& m) := by
  have h1 : ((r + 2 ^ k * a) &&& (s + 2 ^ k * m)) / 2 ^ k = a &&& m := by
    rw [Nat.and_div_two_pow, Nat.add_mul_div_left _ _ (Nat.two_pow_pos k), Nat.add_mul_div_left _ _ (Nat.two_pow_pos k), Nat.div_eq_of_lt hr, Nat.div_eq_of_lt hs, Nat.zero_add, Nat.zero_add]
  have h2 : ((r + 2 ^ k * a) &&& (s + 2 ^ k * m)) % 2 ^ k = r &&& s := by
    rw [Nat.and_mod_two_pow, Nat.add_mul_mod_self_left, Nat.add_mul_mod_self_left, Nat.mod_eq_of_lt hr, Nat.mod_eq_of_lt hs]
  rw [← Nat.mod_add_div ((r + 2 ^ k * a) &&& (s + 2 ^ k * m)) (2 ^ k), h1, h2]
theorem and_8 (r s a m : Nat) (hr : r < 256) (hs : s < 256) : (r + 256 * a) &&& (s + 256 * m) = (r &&& s) + 256 * (a &&& m) := and_step 8 r s a m hr hs
def bs1 (x : Nat) : Nat := x - ((x / 2) &&& 85)
def bs2 (y : Nat) : Nat := (y &&& 51) + ((y / 4) &&& 51)
def bs3 (z : Nat) : Nat := (z + z / 16) % 16
def pc8 (x : Nat) : Nat := x % 2 + x / 2 % 2 + x / 4 % 2 + x / 8 % 2 + x / 16 % 2 + x / 32 % 2 + x / 64 % 2 + x / 128 % 2
theorem bs_a : ∀ x, x < 256 → (x / 2) &&& 85 ≤ x ∧ bs1 x < 256 ∧ bs2 (bs1 x) % 16 ≤ 4 ∧ bs2 (bs1 x) / 16 ≤ 4 ∧ bs3 (bs2 (bs1 x)) = pc8 x := by decide +kernel
theorem bs_b : ∀ r, r < 128 → (r + 128) &&& 85 = r &&& 85 := by decide +kernel
theorem bs_c : ∀ r, r < 64 → (r + 64) &&& 51 = r &&& 51 ∧ (r + 128) &&& 51 = r &&& 51 ∧ (r + 192) &&& 51 = r &&& 51 := by decide +kernel
/-- stage one, a byte off -/
theorem bst1 {x n m : Nat} (hx : x < 256) (hm : (n / 2) &&& m ≤ n) : (x + 256 * n) - (((x + 256 * n) / 2) &&& (85 + 256 * m)) = bs1 x + 256 * (n - ((n / 2) &&& m)) ∧ ((x + 256 * n) / 2) &&& (85 + 256 * m) ≤ x + 256 * n := by
  have e : (x + 256 * n) / 2 = (x / 2 + 128 * (n % 2)) + 256 * (n / 2) := by omega
  have f := (bs_a x hx).1
  have g : (x / 2 + 128 * (n % 2)) &&& 85 = (x / 2) &&& 85 := by
    rcases Nat.mod_two_eq_zero_or_one n with q | q
    · rw [q, Nat.mul_zero, Nat.add_zero]
    · rw [q, Nat.mul_one]
      exact bs_b (x / 2) (by omega)
  rw [e, and_8 _ _ _ _ (by omega) (by omega), g]
  unfold bs1
  omega
/-- stage two -/
theorem bst2 {y n m : Nat} (hy : y < 256) : ((y + 256 * n) &&& (51 + 256 * m)) + (((y + 256 * n) / 4) &&& (51 + 256 * m)) = bs2 y + 256 * ((n &&& m) + ((n / 4) &&& m)) := by
  have e : (y + 256 * n) / 4 = (y / 4 + 64 * (n % 4)) + 256 * (n / 4) := by omega
  have g : (y / 4 + 64 * (n % 4)) &&& 51 = (y / 4) &&& 51 := by
    have := bs_c (y / 4) (by omega)
    rcases (by omega : n % 4 = 0 ∨ n % 4 = 1 ∨ n % 4 = 2 ∨ n % 4 = 3) with q | q | q | q <;> rw [q]
    · rw [Nat.mul_zero, Nat.add_zero]
    · exact this.1
    · exact this.2.1
    · exact this.2.2
  rw [e, and_8 _ _ _ _ hy (by omega), and_8 _ _ _ _ (by omega) (by omega), g]
  unfold bs2
  omega
/-- stage three -/
theorem bst3 {z n m : Nat} (h1 : z % 16 ≤ 4) (h2 : z / 16 ≤ 4) (h3 : n % 16 ≤ 4) : ((z + 256 * n) + (z + 256 * n) / 16) &&& (15 + 256 * m) = bs3 z + 256 * ((n + n / 16) &&& m) := by
  have e : (z + 256 * n) + (z + 256 * n) / 16 = (z + z / 16 + 16 * (n % 16)) + 256 * (n + n / 16) := by omega
  have g : (z + z / 16 + 16 * (n % 16)) &&& 15 = bs3 z := by
    rw [show (15 : Nat) = 2 ^ 4 - 1 from rfl, Nat.and_two_pow_sub_one_eq_mod]
    unfold bs3
    omega
  rw [e, and_8 _ _ _ _ (by omega) (by omega), g]
def swar (n : Nat) : Nat :=
  (((((n - ((n / 2) &&& 1431655765)) &&& 858993459) + (((n - ((n / 2) &&& 1431655765)) / 4) &&& 858993459) + (((n - ((n / 2) &&& 1431655765)) &&& 858993459) + (((n - ((n / 2) &&& 1431655765)) / 4) &&& 858993459)) / 16) &&& 252645135))
theorem swar_b {x0 x1 x2 x3 : Nat} (h0 : x0 < 256) (h1 : x1 < 256) (h2 : x2 < 256) (h3 : x3 < 256) : swar (x0 + 256 * (x1 + 256 * (x2 + 256 * (x3 + 256 * 0)))) = pc8 x0 + 256 * (pc8 x1 + 256 * (pc8 x2 + 256 * (pc8 x3 + 256 * 0))) := by
  have s3 := bst1 (x := x3) (n := 0) (m := 0) h3 (by simp)
  have s2 := bst1 (x := x2) (n := x3 + 256 * 0) (m := 85 + 256 * 0) h2 s3.2
  have s1 := bst1 (x := x1) (n := x2 + 256 * (x3 + 256 * 0)) (m := 85 + 256 * (85 + 256 * 0)) h1 s2.2
  have s0 := bst1 (x := x0) (n := x1 + 256 * (x2 + 256 * (x3 + 256 * 0))) (m := 85 + 256 * (85 + 256 * (85 + 256 * 0))) h0 s1.2
  have a0 := bs_a x0 h0
  have a1 := bs_a x1 h1
  have a2 := bs_a x2 h2
  have a3 := bs_a x3 h3
  unfold swar
  rw [show (1431655765 : Nat) = 85 + 256 * (85 + 256 * (85 + 256 * (85 + 256 * 0))) from rfl, s0.1, s1.1, s2.1, s3.1, show (0 : Nat) - ((0 / 2) &&& 0) = 0 from rfl, show (858993459 : Nat) = 51 + 256 * (51 + 256 * (51 + 256 * (51 + 256 * 0))) from rfl, bst2 a0.2.1, bst2 a1.2.1, bst2 a2.2.1, bst2 a3.2.1, show ((0 : Nat) &&& 0) + ((0 / 4) &&& 0) = 0 from rfl, show (252645135 : Nat) = 15 + 256 * (15 + 256 * (15 + 256 * (15 + 256 * 0))) from rfl, bst3 a0.2.2.1 a0.2.2.2.1 (by omega), bst3 a1.2.2.1 a1.2.2.2.1 (by omega), bst3 a2.2.2.1 a2.2.2.2.1 (by omega), bst3 a3.2.2.1 a3.2.2.2.1 (by omega), a0.2.2.2.2, a1.2.2.2.2, a2.2.2.2.2, a3.2.2.2.2]
  rfl
theorem wdN_lt (f : Nat → Bool) (n : Nat) : wdN f n < 2 ^ n := by
  induction n with
  | zero => simp [wdN]
  | succ n ih =>
    rw [wdN]
    apply Nat.or_lt_two_pow
    · rw [Nat.pow_succ]; omega
    · cases f n
      · simp only [Bool.false_eq_true, if_false]; exact Nat.two_pow_pos _
      · simp only [if_true]; rw [Nat.pow_succ]; have := Nat.two_pow_pos n; omega
theorem wdN_succ (f : Nat → Bool) (n : Nat) : wdN f (n + 1) = wdN f n + (if f n then 1 else 0) * 2 ^ n := by
  rw [wdN]
  cases f n
  · simp
  · simp only [if_true, Nat.one_mul]
    have := Nat.two_pow_add_eq_or_of_lt (wdN_lt f n) 1
    rw [Nat.mul_one] at this
    rw [Nat.or_comm, ← this, Nat.add_comm]
theorem wdN_add (f : Nat → Bool) (m n : Nat) : wdN f (m + n) = wdN f m + 2 ^ m * wdN (fun i => f (m + i)) n := by
  induction n with
  | zero => simp [wdN]
  | succ n ih =>
    rw [← Nat.add_assoc, wdN_succ, ih, wdN_succ, Nat.mul_add, Nat.pow_add, Nat.add_assoc]
    congr 2
    cases f (m + n) <;> simp
theorem pc8_wd (g : Nat → Bool) : pc8 (wdN g 8) = fb_ct g 8 := by
  have h : ∀ i, i < 8 → wdN g 8 / 2 ^ i % 2 = if g i then 1 else 0 := by
    intro i hi
    have := wdN_bit g 8 i
    rw [Nat.testBit_eq_decide_div_mod_eq, decide_eq_true hi, Bool.true_and] at this
    cases hg : g i
    · rw [hg] at this
      have := of_decide_eq_false this
      simp
      omega
    · rw [hg] at this
      have := of_decide_eq_true this
      simpa using this
  have h0 := h 0 (by omega)
  have h1 := h 1 (by omega)
  have h2 := h 2 (by omega)
  have h3 := h 3 (by omega)
  have h4 := h 4 (by omega)
  have h5 := h 5 (by omega)
  have h6 := h 6 (by omega)
  have h7 := h 7 (by omega)
  unfold pc8
  simp only [fb_ct, ← h0, ← h1, ← h2, ← h3, ← h4, ← h5, ← h6, ← h7]
  omega
theorem swar_ok (f : Nat → Bool) : swar (wdN f 32) = fb_ct (fun i => f i) 8 + 256 * (fb_ct (fun i => f (8 + i)) 8 + 256 * (fb_ct (fun i => f (8 + (8 + i))) 8 + 256 * (fb_ct (fun i => f (8 + (8 + (8 + i)))) 8 + 256 * 0))) := by
  have e : wdN f 32 = wdN (fun i => f i) 8 + 256 * (wdN (fun i => f (8 + i)) 8 + 256 * (wdN (fun i => f (8 + (8 + i))) 8 + 256 * (wdN (fun i => f (8 + (8 + (8 + i)))) 8 + 256 * 0))) := by
    have e1 := wdN_add f 8 24
    have e2 := wdN_add (fun i => f (8 + i)) 8 16
    have e3 := wdN_add (fun i => f (8 + (8 + i))) 8 8
    have e0 : (2 : Nat) ^ 8 = 256 := by decide
    rw [e0] at e1 e2 e3
    show wdN f (8 + 24) = _
    rw [e1, show (24 : Nat) = 8 + 16 from rfl, e2, show (16 : Nat) = 8 + 8 from rfl, e3]
    rfl
  rw [e, swar_b (wdN_lt _ 8) (wdN_lt _ 8) (wdN_lt _ 8) (wdN_lt _ 8), pc8_wd, pc8_wd, pc8_wd, pc8_wd]
theorem ct_32 (f : Nat → Bool) : fb_ct f 32 = fb_ct (fun i => f i) 8 + fb_ct (fun i => f (8 + i)) 8 + fb_ct (fun i => f (8 + (8 + i))) 8 + fb_ct (fun i => f (8 + (8 + (8 + i)))) 8 := by
  have e1 := fb_ct_split f 8 24
  have e2 := fb_ct_split (fun i => f (8 + i)) 8 16
  have e3 := fb_ct_split (fun i => f (8 + (8 + i))) 8 8
  show fb_ct f (8 + 24) = _
  rw [e1, show (24 : Nat) = 8 + 16 from rfl, e2, show (16 : Nat) = 8 + 8 from rfl, e3]
  show fb_ct (fun i => f i) 8 + _ = _
  omega
theorem e_bitCount (f : Nat → Bool) : fJ6_bitCount_0f7a4 (wd f) = some (zI (fb_ct f 32)) := by
  have hlt : wdN f 32 < 4294967296 := wdN_lt f 32
  have hs := swar_ok f
  have c32 := ct_32 f
  have q1 := fb_ct_le (fun i => f i) 8
  have q2 := fb_ct_le (fun i => f (8 + i)) 8
  have q3 := fb_ct_le (fun i => f (8 + (8 + i))) 8
  have q4 := fb_ct_le (fun i => f (8 + (8 + (8 + i)))) 8
  unfold fJ6_bitCount_0f7a4 wd
  generalize wdN f 32 = n at *
  have u : ∀ (a k : Nat) (s : Int32), a < 4294967296 → ((s.toUInt32 &&& Int32.toUInt32 31).toBitVec % 32).toNat = k → ushr (nI a) s = nI (a / 2 ^ k) := fun a k s ha hk => pk_ushrN ha s k hk
  have an : ∀ a b : Nat, nI a &&& nI b = nI (a &&& b) := by
    intro a b
    apply Int32.toBitVec_inj.1
    show BitVec.ofNat 32 a &&& BitVec.ofNat 32 b = BitVec.ofNat 32 (a &&& b)
    apply BitVec.eq_of_getLsbD_eq
    intro i hi
    simp [hi]
  have m1 : (1431655765 : Int32) = nI 1431655765 := rfl
  have m2 : (858993459 : Int32) = nI 858993459 := rfl
  have m3 : (252645135 : Int32) = nI 252645135 := rfl
  have m4 : (63 : Int32) = nI 63 := rfl
  have l1 : (n / 2) &&& 1431655765 ≤ n / 2 := Nat.and_le_left
  rw [m1, m2, m3, m4]
  unfold swar at hs
  generalize ha1 : n - ((n / 2) &&& 1431655765) = a1 at hs
  have b1 : a1 < 4294967296 := by omega
  have r1 : nI n - (ushr (nI n) 1 &&& nI 1431655765) = nI a1 := by
    rw [u n 1 1 hlt (by decide), an, show n / 2 ^ 1 = n / 2 by rfl, pk_sub (by omega), ha1]
  have l2 : a1 &&& 858993459 ≤ 858993459 := Nat.and_le_right
  have l3 : (a1 / 4) &&& 858993459 ≤ 858993459 := Nat.and_le_right
  generalize ha2 : (a1 &&& 858993459) + ((a1 / 4) &&& 858993459) = a2 at hs
  have b2 : a2 < 4294967296 := by omega
  have r2 : (nI a1 &&& nI 858993459) + (ushr (nI a1) 2 &&& nI 858993459) = nI a2 := by
    rw [u a1 2 2 b1 (by decide), an, an, nI_add, show a1 / 2 ^ 2 = a1 / 4 by rfl, ha2]
  have l4 : (a2 + a2 / 16) &&& 252645135 ≤ 252645135 := Nat.and_le_right
  generalize ha3 : (a2 + a2 / 16) &&& 252645135 = a3 at hs
  have b3 : a3 < 4294967296 := by omega
  have r3 : (nI a2 + ushr (nI a2) 4) &&& nI 252645135 = nI a3 := by
    rw [u a2 4 4 b2 (by decide), nI_add, an, show a2 / 2 ^ 4 = a2 / 16 by rfl, ha3]
  have r4 : nI a3 + ushr (nI a3) 8 = nI (a3 + a3 / 256) := by
    rw [u a3 8 8 b3 (by decide), nI_add]
  have r5 : nI (a3 + a3 / 256) + ushr (nI (a3 + a3 / 256)) 16 = nI (a3 + a3 / 256 + (a3 + a3 / 256) / 65536) := by
    rw [u (a3 + a3 / 256) 16 16 (by omega) (by decide), nI_add]
  show some ((let x := _; x) &&& nI 63) = _
  simp only [r1, r2, r3, r4, r5]
  rw [an, show (63 : Nat) = 2 ^ 6 - 1 from rfl, Nat.and_two_pow_sub_one_eq_mod, nI_zI, c32]
  clear r1 r2 r3 r4 r5 l1 l2 l3 l4 b1 b2 ha1 ha2 ha3 c32 hlt u an m1 m2 m3 m4
  generalize fb_ct (fun i => f i) 8 = E0 at *
  generalize fb_ct (fun i => f (8 + i)) 8 = E1 at *
  generalize fb_ct (fun i => f (8 + (8 + i))) 8 = E2 at *
  generalize fb_ct (fun i => f (8 + (8 + (8 + i)))) 8 = E3 at *
  have d1 : a3 / 256 = E1 + 256 * E2 + 65536 * E3 := by omega
  have d2 : (a3 + a3 / 256) / 65536 = E2 + E3 + 256 * E3 := by rw [d1]; omega
  rw [d2, d1]
  congr 3
  omega
