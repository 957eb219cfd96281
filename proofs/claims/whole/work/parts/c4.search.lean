/-! search, looks -/
def BothL (LW : LWt) (c : Nat) (a b : Option (Int64 × qMem)) : Prop := ∃ v σ τ, a = some (v, σ) ∧ b = some (v, τ) ∧ Inv LW (c + 1) σ τ
theorem zL_rem {a b : Int} (h1 : 0 ≤ a) (h2 : a < 9223372036854775808) (h3 : 0 < b) (h4 : b < 9223372036854775808) : lrm (zL a) (zL b) = zL (a % b) := by
  show zL a - zL a / zL b * zL b = _
  rw [zL_div (by omega) h2 (by omega) h4, zL_mul, zL_sub, Int.tdiv_eq_ediv_of_nonneg h1]
  congr 1
  have := Int.mul_ediv_add_emod a b
  have h5 : a / b * b = b * (a / b) := Int.mul_comm _ _
  omega
theorem half {l r : Nat} (hr : r < l) (h0 : 0 < r) : 2 * (l % r) < l := by
  have h1 := Nat.mod_lt l h0
  have h2 := Nat.mod_add_div l r
  have h3 : 1 ≤ l / r := (Nat.one_le_div_iff h0).mpr (by omega)
  have h4 : r * 1 ≤ r * (l / r) := Nat.mul_le_mul_left r h3
  omega
theorem gcd_st (h l : Nat) : Nat.gcd h l = Nat.gcd l (h % l) := by
  rw [Nat.gcd_comm h l, Nat.gcd_rec l h, Nat.gcd_comm]
theorem lz (x : Nat) (hx : x < 9223372036854775808) : (lg_cmp (zL (x : Int)) 0 = 0) = (x = 0) := by
  rw [show (0 : Int64) = zL 0 from rfl]
  exact propext ((lg_cmp_eq _ _).trans (by rw [zL_eq (by omega) (by omega) (by omega) (by omega)]; omega))
theorem lz' (x : Nat) (hx : x < 9223372036854775808) : (zL (x : Int) = 0) = (x = 0) := by
  rw [show (0 : Int64) = zL 0 from rfl, zL_eq (by omega) (by omega) (by omega) (by omega)]
  exact propext (by omega)
theorem e_cd {N : Nat} : ∀ (m h l i f : Nat), l < 2 ^ m → h < 2 ^ 52 → m ≤ 50 → i + 2 * m + 1 ≤ 200 → 2 * m + 1 < f → fX11_commonDivisor_l9 N f (zL (h : Int)) (zL (l : Int)) (zI i) = some (zL ((Nat.gcd h l : Nat) : Int)) := by
  intro m
  induction m with
  | zero =>
    intro h l i f hl hh hm hi hf
    obtain ⟨f, rfl⟩ : ∃ x, f = x + 1 := ⟨f - 1, by omega⟩
    have : l = 0 := by simpa using hl
    subst this
    show fX11_commonDivisor_s9 N _ _ _ (zI i) = _
    unfold fX11_commonDivisor_s9
    have c1 : (200 ≤ zI i) = False := by rw [zl_200, zI_le (by omega) (by omega) (by omega) (by omega)]; exact eq_false (by omega)
    simp only [c1, if_false, lz 0 (by omega), if_true]
    rw [Nat.gcd_zero_right]
  | succ m ih =>
    intro h l i f hl hh hm hi hf
    have p50 : 2 ^ (m + 1) ≤ 2 ^ 50 := Nat.pow_le_pow_right (by omega) hm
    have e52 : (2 : Nat) ^ 52 = 4503599627370496 := by decide
    have e50 : (2 : Nat) ^ 50 = 1125899906842624 := by decide
    rw [e52] at hh
    rw [e50] at p50
    obtain ⟨f, rfl⟩ : ∃ x, f = x + 2 := ⟨f - 2, by omega⟩
    have c1 : (200 ≤ zI i) = False := by rw [zl_200, zI_le (by omega) (by omega) (by omega) (by omega)]; exact eq_false (by omega)
    have c2 : (200 ≤ zI ((i + 1 : Nat) : Int)) = False := by rw [zl_200, zI_le (by omega) (by omega) (by omega) (by omega)]; exact eq_false (by omega)
    have n1 : zI i + 1 = zI ((i + 1 : Nat) : Int) := by rw [show (1 : Int32) = zI 1 from rfl, zI_add]; rfl
    have n2 : zI ((i + 1 : Nat) : Int) + 1 = zI ((i + 2 : Nat) : Int) := by rw [show (1 : Int32) = zI 1 from rfl, zI_add]; rfl
    show fX11_commonDivisor_s9 N _ _ _ (zI i) = _
    unfold fX11_commonDivisor_s9
    simp only [c1, if_false, lz l (by omega), lz' l (by omega)]
    by_cases q : l = 0
    · rw [if_pos q, q, Nat.gcd_zero_right]
    · rw [if_neg q, if_neg q, zL_rem (by omega) (by omega) (by omega) (by omega), n1, show ((h : Int) % (l : Int)) = ((h % l : Nat) : Int) from rfl, gcd_st h l]
      have hr := Nat.mod_lt h (show 0 < l by omega)
      show fX11_commonDivisor_s9 N _ _ _ (zI ((i + 1 : Nat) : Int)) = _
      unfold fX11_commonDivisor_s9
      simp only [c2, if_false, lz (h % l) (by omega), lz' (h % l) (by omega)]
      by_cases q2 : h % l = 0
      · rw [if_pos q2, q2, Nat.gcd_zero_right]
      · rw [if_neg q2, if_neg q2, zL_rem (by omega) (by omega) (by omega) (by omega), n2, show ((l : Int) % ((h % l : Nat) : Int)) = ((l % (h % l) : Nat) : Int) from rfl, gcd_st l (h % l)]
        have hf2 := half hr (by omega)
        have hp : 2 ^ (m + 1) = 2 * 2 ^ m := by rw [Nat.pow_succ, Nat.mul_comm]
        exact ih (h % l) (l % (h % l)) (i + 2) f (by omega) (by rw [e52]; omega) (by omega) (by omega) (by omega)
theorem r_cd {N : Nat} {v2 : Int32} {v3 : Int64} {σ : qMem} {g : Nat} : ∀ (m h l f : Nat), l < 2 ^ m → h < 2 ^ 52 → m ≤ 50 → 2 * m + 1 < f → Nat.gcd h l = g → fX12_search_l91 N f v2 v3 (zL (h : Int)) (zL (l : Int)) σ = if v2 = 0 then (if zL (g : Int) = 0 then none else some (gl σ 0 44 / zL (g : Int), σ)) else (if zL (g : Int) = 0 then none else some (v3 / zL (g : Int), σ)) := by
  intro m
  induction m with
  | zero =>
    intro h l f hl hh hm hf hg
    obtain ⟨f, rfl⟩ : ∃ x, f = x + 1 := ⟨f - 1, by omega⟩
    have : l = 0 := by simpa using hl
    subst this
    rw [Nat.gcd_zero_right] at hg
    subst hg
    show fX12_search_s91 N _ _ _ _ _ σ = _
    unfold fX12_search_s91
    simp only [lz 0 (by omega), if_true]
  | succ m ih =>
    intro h l f hl hh hm hf hg
    have p50 : 2 ^ (m + 1) ≤ 2 ^ 50 := Nat.pow_le_pow_right (by omega) hm
    have e52 : (2 : Nat) ^ 52 = 4503599627370496 := by decide
    have e50 : (2 : Nat) ^ 50 = 1125899906842624 := by decide
    rw [e52] at hh
    rw [e50] at p50
    obtain ⟨f, rfl⟩ : ∃ x, f = x + 2 := ⟨f - 2, by omega⟩
    show fX12_search_s91 N _ _ _ _ _ σ = _
    unfold fX12_search_s91
    simp only [lz l (by omega), lz' l (by omega)]
    by_cases q : l = 0
    · rw [q, Nat.gcd_zero_right] at hg
      rw [if_pos q, hg]
    · rw [if_neg q, if_neg q, zL_rem (by omega) (by omega) (by omega) (by omega), show ((h : Int) % (l : Int)) = ((h % l : Nat) : Int) from rfl]
      rw [gcd_st h l] at hg
      have hr := Nat.mod_lt h (show 0 < l by omega)
      show fX12_search_s91 N _ _ _ _ _ σ = _
      unfold fX12_search_s91
      simp only [lz (h % l) (by omega), lz' (h % l) (by omega)]
      by_cases q2 : h % l = 0
      · rw [q2, Nat.gcd_zero_right] at hg
        rw [if_pos q2, hg]
      · rw [if_neg q2, if_neg q2, zL_rem (by omega) (by omega) (by omega) (by omega), show ((l : Int) % ((h % l : Nat) : Int)) = ((l % (h % l) : Nat) : Int) from rfl]
        rw [gcd_st l (h % l)] at hg
        have hf2 := half hr (by omega)
        have hp : 2 ^ (m + 1) = 2 * 2 ^ m := by rw [Nat.pow_succ, Nat.mul_comm]
        exact ih (h % l) (l % (h % l)) f (by omega) (by rw [e52]; omega) (by omega) (by omega) hg
theorem le_sum {k : Nat → Nat} {c : Nat} : ∀ n, c < n → (k c : Int) ≤ smN (fun x => (k x : Int)) n
  | 0, h => by omega
  | n + 1, h => by
    show (k c : Int) ≤ smN (fun x => (k x : Int)) n + (k n : Int)
    by_cases q : c = n
    · subst q
      have := smN_le (f := fun _ => 0) (h := fun x => (k x : Int)) c (fun x _ => by show (0 : Int) ≤ (k x : Int); omega)
      rw [smN_const] at this
      omega
    · have := le_sum (k := k) n (show c < n by omega)
      omega
def allS (κ : Nat → Int32) (n : Nat) : Int := smN (fun c => wtS κ c * 1000000000000) n
theorem all_rng {κ : Nat → Int32} {n : Nat} (hw : KW κ) (hn : kI κ 305 = n) (n6 : n ≤ 6) : 0 ≤ allS κ n ∧ allS κ n ≤ 600000000000000 := by
  have a := smN_le (f := fun _ => 0) (h := fun c => wtS κ c * 1000000000000) n (fun c hc => by have := (cell_rng hw hn hc).1; show 0 ≤ wtS κ c * 1000000000000; omega)
  have b := smN_le (h := fun _ => 100000000000000) (f := fun c => wtS κ c * 1000000000000) n (fun c hc => by have := (cell_rng hw hn hc).1; show wtS κ c * 1000000000000 ≤ 100000000000000; omega)
  rw [smN_const] at a b
  unfold allS
  omega
theorem b_looks {LW : LWt} {c N : Nat} {σ τ : qMem} (hN : 200000 ≤ N) (hLW : LWc LW) (h : Inv LW c σ τ) (p1 p2 : Int32) : Both LW c (fX11_looks N p1 p2 σ) (fX12_looks N p1 p2 τ) := by
  obtain ⟨a, l1, u1, rfl⟩ := zI_ex p1
  obtain ⟨b, l2, u2, rfl⟩ := zI_ex p2
  have kw := Inv_KW h
  have ci := Inv_CI h
  have kc := kw.2.2.2.2.2.2.2.2.2.1
  obtain ⟨n, hn⟩ : ∃ n : Nat, kI (τ.1 2) 305 = n := ⟨(kI (τ.1 2) 305).toNat, by omega⟩
  have n6 : n ≤ 6 := by omega
  have ck0 := clK_of (n := n) ci hn
  have g3 : gi σ 33 3 = zI n := ck0.2.1
  have g305 : gi τ 2 305 = zI n := by rw [← hn]; exact (zI_of _).symm
  have i1 : fX11_isIn (zI a) 0 6 = some (bI (decide (0 ≤ a ∧ a ≤ 6))) := e_isIn (b := 0) (c := 6) l1 u1 (by omega) (by omega) (by omega) (by omega)
  have j1 : fX12_in (zI a) 0 6 = some (bI (decide (0 ≤ a ∧ a ≤ 6))) := e_in (b := 0) (c := 6) l1 u1 (by omega) (by omega) (by omega) (by omega)
  have i2 : fX11_isIn (zI b) 0 (gi σ 33 3 - 1) = some (bI (decide (0 ≤ b ∧ b ≤ n - 1))) := by rw [g3, show (1 : Int32) = zI 1 from rfl, zI_sub]; exact e_isIn (b := 0) l2 u2 (by omega) (by omega) (by omega) (by omega)
  have j2 : fX12_in (zI b) 0 (gi τ 2 305 - 1) = some (bI (decide (0 ≤ b ∧ b ≤ n - 1))) := by rw [g305, show (1 : Int32) = zI 1 from rfl, zI_sub]; exact e_in (b := 0) l2 u2 (by omega) (by omega) (by omega) (by omega)
  unfold fX11_looks fX12_looks
  have cko : (ck (305 : Int32) 1112 = true) = True := by decide
  simp only [i1, j1, i2, cko, show (305 : Int32).toNatClampNeg = 305 from rfl, j2, if_true, Option.bind_some, if_bI, decide_eq_true_eq]
  by_cases q1 : 0 ≤ a ∧ a ≤ 6
  · rw [if_pos q1, if_pos q1]
    by_cases q2 : 0 ≤ b ∧ b ≤ (n : Int) - 1
    · rw [if_pos q2, if_pos q2]
      obtain ⟨L, rfl⟩ : ∃ L : Nat, a = L := ⟨a.toNat, by omega⟩
      obtain ⟨y, ey, k, k1, k2, k3, k4, k5, k6⟩ := Ho_get (e_spreadLooks (N := N) (σ := σ) (κ := τ.1 2) (L := L) hN kw hn n6 ck0 (by omega))
      have kle : ∀ x, x < 6 → k x ≤ 6 := fun x hx => by
        by_cases z : x < n
        · have := le_sum (k := k) n z
          rw [k3] at this
          split at this <;> omega
        · rw [k4 x (by omega)]; omega
      have kb : (ck (zI b) 6 = true) = True := zI_ckT q2.1 (by omega) (by omega)
      have zb : (zI b).toNatClampNeg = b.toNat := zI_clamp q2.1 (by omega)
      refine both_q (v := zI (k b.toNat : Nat)) hLW h ?_ ?_
      · rw [ey, Option.bind_some]
        simp only [kb, zb, if_true]
        refine Ho_some ⟨k1 b.toNat (by omega), fun x j hx => k6 x j (by unfold scrC at hx; omega), CC_c (m := σ.1) (m' := y.2.1) (fun x j hx => k6 x j (by omega)) ci.2.2.2⟩
      · refine Ho_bind (r_searches hN rfl kw hn n6 (by omega) k2 k3 k4 kle) (fun t ⟨t1, t2, t3⟩ => ?_)
        simp only [kb, zb, if_true]
        exact Ho_some ⟨t2 b.toNat (by omega), fun x j hx => t3 x j (by unfold scrM at hx; omega) (by unfold scrM at hx; omega), RC_c (t := τ.1) (t' := t.1) (fun x j hx => t3 x j (by omega) (by omega)) (Inv_RC h)⟩
    · rw [if_neg q2, if_neg q2]; exact both_same hLW h _
  · rw [if_neg q1, if_neg q1]; exact both_same hLW h _
theorem b_search {LW : LWt} {c N : Nat} {σ τ : qMem} (hN : 200000 ≤ N) (hLW : LWc LW) (h : Inv LW c σ τ) (p1 p2 : Int32) : BothL LW c (fX11_search N p1 p2 σ) (fX12_search N p1 p2 τ) := by
  obtain ⟨a, l1, u1, rfl⟩ := zI_ex p1
  obtain ⟨b, l2, u2, rfl⟩ := zI_ex p2
  have kw := Inv_KW h
  have ci := Inv_CI h
  have kc := kw.2.2.2.2.2.2.2.2.2.1
  have same : Inv LW (c + 1) σ τ := Inv_scr hLW h (SC_refl σ) (SM_refl τ) ci.2.2.2 (Inv_RC h)
  obtain ⟨n, hn⟩ : ∃ n : Nat, kI (τ.1 2) 305 = n := ⟨(kI (τ.1 2) 305).toNat, by omega⟩
  have n6 : n ≤ 6 := by omega
  have ck0 := clK_of (n := n) ci hn
  have i1 : fX11_isIn (zI a) 0 6 = some (bI (decide (0 ≤ a ∧ a ≤ 6))) := e_isIn (b := 0) (c := 6) l1 u1 (by omega) (by omega) (by omega) (by omega)
  have j1 : fX12_in (zI a) 0 6 = some (bI (decide (0 ≤ a ∧ a ≤ 6))) := e_in (b := 0) (c := 6) l1 u1 (by omega) (by omega) (by omega) (by omega)
  have i2 : fX11_isIn (zI b) 0 1 = some (bI (decide (0 ≤ b ∧ b ≤ 1))) := e_isIn (b := 0) (c := 1) l2 u2 (by omega) (by omega) (by omega) (by omega)
  have j2 : fX12_in (zI b) 0 1 = some (bI (decide (0 ≤ b ∧ b ≤ 1))) := e_in (b := 0) (c := 1) l2 u2 (by omega) (by omega) (by omega) (by omega)
  unfold fX11_search fX12_search
  simp only [i1, j1, i2, j2, Option.bind_some, if_bI, decide_eq_true_eq]
  by_cases q1 : 0 ≤ a ∧ a ≤ 6
  · rw [if_pos q1, if_pos q1]
    by_cases q2 : 0 ≤ b ∧ b ≤ 1
    · rw [if_pos q2, if_pos q2]
      obtain ⟨L, rfl⟩ : ∃ L : Nat, a = L := ⟨a.toNat, by omega⟩
      obtain ⟨y, ey, k, k1, k2, k3, k4, k5, k6⟩ := Ho_get (e_spreadLooks (N := N) (σ := σ) (κ := τ.1 2) (L := L) hN kw hn n6 ck0 (by omega))
      have kle : ∀ x, x < 6 → k x ≤ 6 := fun x hx => by
        by_cases z : x < n
        · have := le_sum (k := k) n z
          rw [k3] at this
          split at this <;> omega
        · rw [k4 x (by omega)]; omega
      obtain ⟨t, et, t1, t2, t3⟩ := Ho_get (r_searches hN rfl kw hn n6 (by omega) k2 k3 k4 kle)
      rw [ey, Option.bind_some, et, Option.bind_some]
      have vr := vl_rng kw hn n6 (fun c hc => kle c (by omega))
      have ar := all_rng kw hn n6
      have cky : clK y.2 (τ.1 2) n := ⟨(k6 _ _ (by omega)).trans ck0.1, (k6 _ _ (by omega)).trans ck0.2.1, fun c hc => ⟨(k6 _ _ (by omega)).trans (ck0.2.2 c hc).1, (k6 _ _ (by omega)).trans (ck0.2.2 c hc).2⟩⟩
      have kt : t.1 2 = τ.1 2 := funext fun j => t3 2 j (by omega) (by omega)
      have hI : Inv LW (c + 1) y.2 t := Inv_scr hLW h (fun x j hx => k6 x j (by unfold scrC at hx; omega)) (fun x j hx => t3 x j (by unfold scrM at hx; omega) (by unfold scrM at hx; omega)) (CC_c (m := σ.1) (m' := y.2.1) (fun x j hx => k6 x j (by omega)) ci.2.2.2) (RC_c (t := τ.1) (t' := t.1) (fun x j hx => t3 x j (by omega) (by omega)) (Inv_RC h))
      obtain ⟨V, hV⟩ : ∃ V : Nat, vlG (gnS (τ.1 2) n) k n = V := ⟨(vlG (gnS (τ.1 2) n) k n).toNat, by omega⟩
      obtain ⟨A, hA⟩ : ∃ A : Nat, allS (τ.1 2) n = A := ⟨(allS (τ.1 2) n).toNat, by omega⟩
      have e52 : (2 : Nat) ^ 52 = 4503599627370496 := by decide
      have e50 : (2 : Nat) ^ 50 = 1125899906842624 := by decide
      have cb : (zI b = 0) = (b = 0) := by rw [show (0 : Int32) = zI 0 from rfl, zI_eq (by omega) (by omega) (by omega) (by omega)]
      -- the class
      have pw : fX11_power N 100 6 = some (zL 1000000000000) := e_power (b := 100) (t := 6) hN (by omega) (by omega)
      have lC : ∀ (d i f : Nat), i + d = n → d < f → fX11_search_l35 N f (zI b) (zL (V : Int)) (zL (smN (fun c => wtS (τ.1 2) c * 1000000000000) i)) (zI i) y.2 = if A = 0 then some ((zI b).toInt64, y.2) else if b = 0 then some (zL (V : Int) / zL ((Nat.gcd V A : Nat) : Int), y.2) else some (zL (A : Int) / zL ((Nat.gcd V A : Nat) : Int), y.2) := by
        intro d
        induction d with
        | zero =>
          intro i f hi hf
          obtain ⟨f, rfl⟩ : ∃ x, f = x + 1 := ⟨f - 1, by omega⟩
          have : i = n := by omega
          subst this
          show fX11_search_s35 N _ _ _ _ (zI i) y.2 = _
          unfold fX11_search_s35
          have c1 : (gi y.2 33 3 ≤ zI i) = True := by rw [cky.2.1, zI_le (by omega) (by omega) (by omega) (by omega)]; exact eq_true (by omega)
          have eA : smN (fun c => wtS (τ.1 2) c * 1000000000000) i = (A : Int) := hA
          rw [eA]
          simp only [c1, if_true, lz A (by omega)]
          by_cases qA : A = 0
          · rw [if_pos qA, if_pos qA]
          · rw [if_neg qA, if_neg qA]
            have gp := Nat.gcd_pos_of_pos_right V (show 0 < A by omega)
            have gl' := Nat.gcd_le_right V (show 0 < A by omega)
            have cd : fX11_commonDivisor N (zL (V : Int)) (zL (A : Int)) = some (zL ((Nat.gcd V A : Nat) : Int)) := by
              have := e_cd (N := N) 50 V A 0 N (by rw [e50]; omega) (by rw [e52]; omega) (by omega) (by omega) (by omega)
              exact this
            rw [cd, Option.bind_some]
            have g0 : (Nat.gcd V A = 0) = False := eq_false (by omega)
            simp only [lz _ (show Nat.gcd V A < 9223372036854775808 by omega), lz' _ (show Nat.gcd V A < 9223372036854775808 by omega), cb, g0, if_false]
        | succ d ih =>
          intro i f hi hf
          obtain ⟨f, rfl⟩ : ∃ x, f = x + 1 := ⟨f - 1, by omega⟩
          show fX11_search_s35 N _ _ _ _ (zI i) y.2 = _
          unfold fX11_search_s35
          have c1 : (gi y.2 33 3 ≤ zI i) = False := by rw [cky.2.1, zI_le (by omega) (by omega) (by omega) (by omega)]; exact eq_false (by omega)
          have wr := (cell_rng kw hn (show i < n by omega)).1
          have at0 : fX8_at 33 12 (zI i) 0 y.2 = some (zI (wtS (τ.1 2) i)) := by
            have := e_at (n := 12) (col := 0) cky.1 cky.2.1 (show 0 ≤ (i : Int) by omega) (by omega) (by omega) (by omega) (by omega) (by omega) (by omega)
            refine (show fX8_at 33 12 (zI i) 0 y.2 = _ from this).trans ?_
            rw [show ((i : Int) * 2 + 0).toNat = 2 * i by omega]
            exact congrArg some (cky.2.2 i (by omega)).1
          simp only [c1, if_false, at0, Option.bind_some, pw]
          rw [zI_long (by omega) (by omega), zL_mul, zL_add, show zI i + 1 = zI ((i + 1 : Nat) : Int) by rw [show (1 : Int32) = zI 1 from rfl, zI_add]; rfl]
          exact ih (i + 1) f (by omega) (by omega)
      -- the reference
      have lR : ∀ (d i f : Nat), i + d = n → d < f → fX12_search_l33 N f (zI b) (zL (smN (fun c => wtS (τ.1 2) c * 1000000000000) i)) (zI i) t = if A = 0 then some ((zI b).toInt64, t) else if b = 0 then some (zL (V : Int) / zL ((Nat.gcd V A : Nat) : Int), t) else some (zL (A : Int) / zL ((Nat.gcd V A : Nat) : Int), t) := by
        have g305 : gi t 2 305 = zI n := by rw [t3 _ _ (by omega) (by omega), ← hn]; exact (zI_of _).symm
        intro d
        induction d with
        | zero =>
          intro i f hi hf
          obtain ⟨f, rfl⟩ : ∃ x, f = x + 1 := ⟨f - 1, by omega⟩
          have : i = n := by omega
          subst this
          show fX12_search_s33 N _ _ _ (zI i) t = _
          unfold fX12_search_s33
          have c1 : (zI i ≤ zI i) = True := by rw [zI_le (by omega) (by omega) (by omega) (by omega)]; exact eq_true (by omega)
          have eA : smN (fun c => wtS (τ.1 2) c * 1000000000000) i = (A : Int) := hA
          rw [if_pos (by decide), show (305 : Int32).toNatClampNeg = 305 from rfl, g305, eA]
          simp only [c1, if_true, lz A (by omega)]
          by_cases qA : A = 0
          · rw [if_pos qA, if_pos qA]
          · rw [if_neg qA, if_neg qA]
            have gp := Nat.gcd_pos_of_pos_right V (show 0 < A by omega)
            have gl' := Nat.gcd_le_right V (show 0 < A by omega)
            rw [t1, hV, r_cd (g := Nat.gcd V A) 50 A V N (by rw [e50]; omega) (by rw [e52]; omega) (by omega) (by omega) (Nat.gcd_comm _ _)]
            have g0 : (Nat.gcd V A = 0) = False := eq_false (by omega)
            simp only [lz' _ (show Nat.gcd V A < 9223372036854775808 by omega), cb, g0, if_false]
            rw [t1, hV]
        | succ d ih =>
          intro i f hi hf
          obtain ⟨f, rfl⟩ : ∃ x, f = x + 1 := ⟨f - 1, by omega⟩
          show fX12_search_s33 N _ _ _ (zI i) t = _
          unfold fX12_search_s33
          have c1 : (zI n ≤ zI i) = False := by rw [zI_le (by omega) (by omega) (by omega) (by omega)]; exact eq_false (by omega)
          have wr := (cell_rng kw hn (show i < n by omega)).1
          have e1 : (226 : Int32) + 2 * zI i = zI ((226 + 2 * i : Nat) : Int) := by rw [show (2 : Int32) = zI 2 from rfl, show (226 : Int32) = zI 226 from rfl, zI_mul, zI_add]; rfl
          have kk : (ck (zI ((226 + 2 * i : Nat) : Int)) 1112 = true) = True := zI_ckT (by omega) (by omega) (by omega)
          have zk : (zI ((226 + 2 * i : Nat) : Int)).toNatClampNeg = 226 + 2 * i := by rw [zI_clamp (by omega) (by omega)]; omega
          have gw : gi t 2 (226 + 2 * i) = zI (wtS (τ.1 2) i) := by
            have := kI_z t 2 (226 + 2 * (i : Int))
            rw [kt, show (226 + 2 * (i : Int)).toNat = 226 + 2 * i by omega] at this
            exact this
          rw [if_pos (by decide), show (305 : Int32).toNatClampNeg = 305 from rfl, g305]
          simp only [c1, if_false, e1, kk, zk, if_true, gw, nmL]
          rw [zI_long (by omega) (by omega), show (1000000000000 : Int64) = zL 1000000000000 from rfl, zL_mul, zL_add, show zI i + 1 = zI ((i + 1 : Nat) : Int) by rw [show (1 : Int32) = zI 1 from rfl, zI_add]; rfl]
          exact ih (i + 1) f (by omega) (by omega)
      have rC := lC n 0 N (by omega) (by omega)
      have rR := lR n 0 N (by omega) (by omega)
      have rC' : fX11_search_l35 N N (zI b) (zL (V : Int)) 0 0 y.2 = _ := rC
      have rR' : fX12_search_l33 N N (zI b) 0 0 t = _ := rR
      rw [k5, hV, rC', rR']
      by_cases qA : A = 0
      · rw [if_pos qA, if_pos qA]; exact ⟨_, _, _, rfl, rfl, hI⟩
      · rw [if_neg qA, if_neg qA]
        by_cases qb : b = 0
        · rw [if_pos qb, if_pos qb]; exact ⟨_, _, _, rfl, rfl, hI⟩
        · rw [if_neg qb, if_neg qb]; exact ⟨_, _, _, rfl, rfl, hI⟩
    · rw [if_neg q2, if_neg q2]; exact ⟨_, _, _, rfl, rfl, same⟩
  · rw [if_neg q1, if_neg q1]; exact ⟨_, _, _, rfl, rfl, same⟩
