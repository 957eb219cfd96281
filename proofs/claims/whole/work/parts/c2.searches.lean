/-! looks at cells: the reference -/
def prN (f k : Nat) : Nat → Nat
  | 0 => 1
  | i + 1 => prN f k i * (if i < k then 100 - f else 100)
theorem prN_tab : ∀ f : Fin 101, ∀ k : Fin 7, prN f.val k.val 6 = (100 - f.val) ^ k.val * 100 ^ (6 - k.val) := by decide +kernel
def itD (r : Nat) : Nat → Nat
  | 0 => r
  | m + 1 => itD r m / 7
def dgN (r c : Nat) : Nat := itD r (5 - c) % 7
def cdN (k : Nat → Nat) : Nat := ((((k 0 * 7 + k 1) * 7 + k 2) * 7 + k 3) * 7 + k 4) * 7 + k 5
theorem cd_dg {k : Nat → Nat} (h : ∀ c, c < 6 → k c ≤ 6) : cdN k ≤ 117648 ∧ ∀ c, c < 6 → dgN (cdN k) c = k c := by
  have h0 := h 0 (by omega)
  have h1 := h 1 (by omega)
  have h2 := h 2 (by omega)
  have h3 := h 3 (by omega)
  have h4 := h 4 (by omega)
  have h5 := h 5 (by omega)
  refine ⟨by unfold cdN; omega, fun c hc => ?_⟩
  rcases (by omega : c = 0 ∨ c = 1 ∨ c = 2 ∨ c = 3 ∨ c = 4 ∨ c = 5) with z | z | z | z | z | z <;> subst z
  · show cdN k / 7 / 7 / 7 / 7 / 7 % 7 = k 0
    unfold cdN; omega
  · show cdN k / 7 / 7 / 7 / 7 % 7 = k 1
    unfold cdN; omega
  · show cdN k / 7 / 7 / 7 % 7 = k 2
    unfold cdN; omega
  · show cdN k / 7 / 7 % 7 = k 3
    unfold cdN; omega
  · show cdN k / 7 % 7 = k 4
    unfold cdN; omega
  · show cdN k % 7 = k 5
    unfold cdN; omega
/-- the greater number has the greater digit where they first differ -/
theorem lex_gt {r s : Nat} (hr : r ≤ 117648) (h : s < r) : ∃ b, b < 6 ∧ dgN s b < dgN r b ∧ ∀ c, c < b → dgN r c = dgN s c := by
  have e0 : ∀ x, dgN x 0 = x / 7 / 7 / 7 / 7 / 7 % 7 := fun _ => rfl
  have e1 : ∀ x, dgN x 1 = x / 7 / 7 / 7 / 7 % 7 := fun _ => rfl
  have e2 : ∀ x, dgN x 2 = x / 7 / 7 / 7 % 7 := fun _ => rfl
  have e3 : ∀ x, dgN x 3 = x / 7 / 7 % 7 := fun _ => rfl
  have e4 : ∀ x, dgN x 4 = x / 7 % 7 := fun _ => rfl
  have e5 : ∀ x, dgN x 5 = x % 7 := fun _ => rfl
  have pre : ∀ b, b ≤ 5 → (b ≥ 1 → dgN r 0 = dgN s 0) → (b ≥ 2 → dgN r 1 = dgN s 1) → (b ≥ 3 → dgN r 2 = dgN s 2) → (b ≥ 4 → dgN r 3 = dgN s 3) → (b ≥ 5 → dgN r 4 = dgN s 4) → ∀ c, c < b → dgN r c = dgN s c := by
    intro b hb p0 p1 p2 p3 p4 c hc
    rcases (by omega : c = 0 ∨ c = 1 ∨ c = 2 ∨ c = 3 ∨ c = 4) with z | z | z | z | z <;> subst z
    · exact p0 (by omega)
    · exact p1 (by omega)
    · exact p2 (by omega)
    · exact p3 (by omega)
    · exact p4 (by omega)
  by_cases q0 : dgN r 0 = dgN s 0
  · by_cases q1 : dgN r 1 = dgN s 1
    · by_cases q2 : dgN r 2 = dgN s 2
      · by_cases q3 : dgN r 3 = dgN s 3
        · by_cases q4 : dgN r 4 = dgN s 4
          · refine ⟨5, by omega, ?_, pre 5 (by omega) (fun _ => q0) (fun _ => q1) (fun _ => q2) (fun _ => q3) (fun _ => q4)⟩
            rw [e0, e0] at q0; rw [e1, e1] at q1; rw [e2, e2] at q2; rw [e3, e3] at q3; rw [e4, e4] at q4; rw [e5, e5]
            omega
          · refine ⟨4, by omega, ?_, pre 4 (by omega) (fun _ => q0) (fun _ => q1) (fun _ => q2) (fun _ => q3) (fun z => by omega)⟩
            rw [e0, e0] at q0; rw [e1, e1] at q1; rw [e2, e2] at q2; rw [e3, e3] at q3; rw [e4, e4] at q4 ⊢
            omega
        · refine ⟨3, by omega, ?_, pre 3 (by omega) (fun _ => q0) (fun _ => q1) (fun _ => q2) (fun z => by omega) (fun z => by omega)⟩
          rw [e0, e0] at q0; rw [e1, e1] at q1; rw [e2, e2] at q2; rw [e3, e3] at q3 ⊢
          omega
      · refine ⟨2, by omega, ?_, pre 2 (by omega) (fun _ => q0) (fun _ => q1) (fun z => by omega) (fun z => by omega) (fun z => by omega)⟩
        rw [e0, e0] at q0; rw [e1, e1] at q1; rw [e2, e2] at q2 ⊢
        omega
    · refine ⟨1, by omega, ?_, pre 1 (by omega) (fun _ => q0) (fun z => by omega) (fun z => by omega) (fun z => by omega) (fun z => by omega)⟩
      rw [e0, e0] at q0; rw [e1, e1] at q1 ⊢
      omega
  · refine ⟨0, by omega, ?_, pre 0 (by omega) (fun z => by omega) (fun z => by omega) (fun z => by omega) (fun z => by omega) (fun z => by omega)⟩
    rw [e0, e0] at q0 ⊢
    omega
section SRC
variable {κ : Nat → Int32} {n : Nat}
theorem gn_sum (hw : KW κ) (hn : kI κ 305 = n) {c : Nat} (hc : c < n) : ∀ x, x ≤ 6 → smN (fun j => gnS κ n c j) x = wtS κ c * (qS (fdS κ c).toNat x : Int)
  | 0, _ => by show (0 : Int) = _ * ((0 : Nat) : Int); rw [Int.natCast_zero, Int.mul_zero]
  | x + 1, h => by
    show smN (fun j => gnS κ n c j) x + gnS κ n c x = wtS κ c * ((qS (fdS κ c).toNat x + qN (fdS κ c).toNat x * (fdS κ c).toNat : Nat) : Int)
    rw [gn_sum hw hn hc x (by omega)]
    obtain ⟨a, b⟩ := cell_rng hw hn hc
    unfold gnS
    rw [if_pos ⟨by omega, hc⟩, Int.natCast_add, Int.mul_add, Int.natCast_mul, show (((fdS κ c).toNat : Nat) : Int) = fdS κ c by omega, Int.mul_assoc]
def chS (κ : Nat → Int32) (k : Nat → Nat) (c : Nat) : Int := wtS κ c * (1000000000000 - ((prN (fdS κ c).toNat (k c) 6 : Nat) : Int))
theorem ch_vl (hw : KW κ) (hn : kI κ 305 = n) {k : Nat → Nat} (h : ∀ c, c < n → k c ≤ 6) : smN (chS κ k) n = vlG (gnS κ n) k n := by
  refine smN_cong n (fun c hc => ?_)
  rw [gn_sum hw hn hc _ (h c hc)]
  obtain ⟨a, b⟩ := cell_rng hw hn hc
  have t := qS_tab ⟨(fdS κ c).toNat, by omega⟩ ⟨k c, by have := h c hc; omega⟩
  have p := prN_tab ⟨(fdS κ c).toNat, by omega⟩ ⟨k c, by have := h c hc; omega⟩
  simp only at t p
  unfold chS
  congr 1
  rw [p]
  omega
theorem vl_rng (hw : KW κ) (hn : kI κ 305 = n) (n6 : n ≤ 6) {k : Nat → Nat} (h : ∀ c, c < n → k c ≤ 6) : 0 ≤ vlG (gnS κ n) k n ∧ vlG (gnS κ n) k n ≤ 1000000000000000 := by
  rw [← ch_vl hw hn h]
  have lo : ∀ c, c < n → 0 ≤ chS κ k c ∧ chS κ k c ≤ 100000000000000 := fun c hc => by
    obtain ⟨a, b⟩ := cell_rng hw hn hc
    have t := qS_tab ⟨(fdS κ c).toNat, by omega⟩ ⟨k c, by have := h c hc; omega⟩
    have p := prN_tab ⟨(fdS κ c).toNat, by omega⟩ ⟨k c, by have := h c hc; omega⟩
    simp only at t p
    unfold chS
    rw [p]
    generalize (100 - (fdS κ c).toNat) ^ k c * 100 ^ (6 - k c) = q at *
    refine ⟨Int.mul_nonneg a.1 (by omega), ?_⟩
    have := Int.mul_le_mul (a := wtS κ c) (b := 1000000000000 - (q : Int)) (c := 100) (d := 1000000000000) a.2 (by omega) (by omega) (by omega)
    omega
  have a := smN_le (f := fun _ => 0) n (fun c hc => (lo c hc).1)
  have b := smN_le (h := fun _ => 100000000000000) n (fun c hc => (lo c hc).2)
  rw [smN_const] at a b
  omega
theorem r_chance {N : Nat} {τ : qMem} {k : Nat → Nat} (hN : 200000 ≤ N) (hκ : τ.1 2 = κ) (hw : KW κ) (hn : kI κ 305 = n) (n6 : n ≤ 6) (hk : ∀ c, c < 6 → gi τ 25 c = zI (k c : Nat)) (h6 : ∀ c, c < 6 → k c ≤ 6) : fX12_chance N τ = some (zL (vlG (gnS κ n) k n)) := by
  have g305 : gi τ 2 305 = zI n := by rw [← hn, ← hκ]; exact (zI_of _).symm
  have gw : ∀ c : Nat, gi τ 2 (226 + 2 * c) = zI (wtS κ c) := fun c => by
    have := kI_z τ 2 (226 + 2 * (c : Int))
    rw [hκ, show (226 + 2 * (c : Int)).toNat = 226 + 2 * c by omega] at this
    exact this
  have gf : ∀ c : Nat, gi τ 2 (226 + 2 * c + 1) = zI (fdS κ c) := fun c => by
    have := kI_z τ 2 (226 + 2 * (c : Int) + 1)
    rw [hκ, show (226 + 2 * (c : Int) + 1).toNat = 226 + 2 * c + 1 by omega] at this
    exact this
  have inner : ∀ (c : Nat) (c4 : Int64 → Int32 → Option Int64) (v1 : Int64), c < n → ∀ (d i f : Nat), i + d = 6 → d < f → fX12_chance_l22 N c4 τ f v1 (zI c) (zL ((prN (fdS κ c).toNat (k c) i : Nat) : Int)) (zI i) = c4 (v1 + zL (chS κ k c)) (zI ((c + 1 : Nat) : Int)) := by
    intro c c4 v1 hc
    obtain ⟨a, b⟩ := cell_rng hw hn hc
    have e1 : (226 : Int32) + 2 * zI c = zI ((226 + 2 * c : Nat) : Int) := by rw [show (2 : Int32) = zI 2 from rfl, show (226 : Int32) = zI 226 from rfl, zI_mul, zI_add]; rfl
    have e2 : zI ((226 + 2 * c : Nat) : Int) + 1 = zI ((226 + 2 * c + 1 : Nat) : Int) := by rw [show (1 : Int32) = zI 1 from rfl, zI_add]; rfl
    have k1 : (ck (zI ((226 + 2 * c : Nat) : Int)) 1112 = true) = True := zI_ckT (by omega) (by omega) (by omega)
    have k2 : (ck (zI ((226 + 2 * c + 1 : Nat) : Int)) 1112 = true) = True := zI_ckT (by omega) (by omega) (by omega)
    have z1 : (zI ((226 + 2 * c : Nat) : Int)).toNatClampNeg = 226 + 2 * c := by rw [zI_clamp (by omega) (by omega)]; omega
    have z2 : (zI ((226 + 2 * c + 1 : Nat) : Int)).toNatClampNeg = 226 + 2 * c + 1 := by rw [zI_clamp (by omega) (by omega)]; omega
    have kc : (ck (zI c) 6 = true) = True := zI_ckT (by omega) (by omega) (by omega)
    have zc : (zI c).toNatClampNeg = c := by rw [zI_clamp (by omega) (by omega)]; omega
    intro d
    induction d with
    | zero =>
      intro i f hi hf
      obtain ⟨f, rfl⟩ : ∃ x, f = x + 1 := ⟨f - 1, by omega⟩
      have : i = 6 := by omega
      subst this
      show fX12_chance_s22 N c4 _ v1 (zI c) _ (zI (6 : Nat)) τ = _
      unfold fX12_chance_s22
      rw [if_pos (by decide)]
      simp only [e1, k1, z1, if_true, gw, nmL]
      rw [zI_long (by omega) (by omega), show (1000000000000 : Int64) = zL 1000000000000 from rfl, zL_sub, zL_mul, show zI c + 1 = zI ((c + 1 : Nat) : Int) by rw [show (1 : Int32) = zI 1 from rfl, zI_add]; rfl]
      rfl
    | succ d ih =>
      intro i f hi hf
      obtain ⟨f, rfl⟩ : ∃ x, f = x + 1 := ⟨f - 1, by omega⟩
      show fX12_chance_s22 N c4 _ v1 (zI c) _ (zI i) τ = _
      unfold fX12_chance_s22 fX12_chance_b64
      have h6c := h6 c (by omega)
      have c1 : (6 ≤ zI i) = False := by rw [show (6 : Int32) = zI 6 from rfl, zI_le (by omega) (by omega) (by omega) (by omega)]; exact eq_false (by omega)
      have c2 : (gi τ 25 c ≤ zI i) = (k c ≤ i) := by rw [hk c (by omega), zI_le (by omega) (by omega) (by omega) (by omega)]; exact propext (by omega)
      have nx : zI i + 1 = zI ((i + 1 : Nat) : Int) := by rw [show (1 : Int32) = zI 1 from rfl, zI_add]; rfl
      simp only [c1, if_false, kc, zc, if_true, c2, e1, e2, k2, z2, gf, nx]
      have step : ∀ (u : Nat), u = (if i < k c then 100 - (fdS κ c).toNat else 100) → fX12_chance_l22 N c4 τ f v1 (zI c) (zL ((prN (fdS κ c).toNat (k c) i : Nat) : Int) * (zI (u : Int)).toInt64) (zI ((i + 1 : Nat) : Int)) = c4 (v1 + zL (chS κ k c)) (zI ((c + 1 : Nat) : Int)) := fun u hu => by
        have u1 : u ≤ 100 := by rw [hu]; split <;> omega
        rw [zI_long (by omega) (by omega), zL_mul, ← Int.natCast_mul]
        have := ih (i + 1) f (by omega) (by omega)
        have ep : prN (fdS κ c).toNat (k c) (i + 1) = prN (fdS κ c).toNat (k c) i * u := by rw [hu]; rfl
        rw [ep] at this
        exact this
      by_cases q : k c ≤ i
      · rw [if_pos q]
        exact step 100 (by rw [if_neg (by omega)])
      · rw [if_neg q]
        have e3 : (100 : Int32) - zI (fdS κ c) = zI ((100 - (fdS κ c).toNat : Nat) : Int) := by rw [show (100 : Int32) = zI 100 from rfl, zI_sub]; congr 1; omega
        rw [e3]
        exact step _ (by rw [if_pos (by omega)])
  have outer : ∀ (d c f : Nat), c + d = n → d < f → fX12_chance_l4 N τ f (zL (smN (chS κ k) c)) (zI c) = some (zL (smN (chS κ k) n)) := by
    intro d
    induction d with
    | zero =>
      intro c f hc hf
      obtain ⟨f, rfl⟩ : ∃ x, f = x + 1 := ⟨f - 1, by omega⟩
      have : c = n := by omega
      subst this
      show fX12_chance_s4 N _ _ (zI c) τ = _
      unfold fX12_chance_s4
      have c1 : (zI c ≤ zI c) = True := by rw [zI_le (by omega) (by omega) (by omega) (by omega)]; exact eq_true (by omega)
      rw [if_pos (by decide), show (305 : Int32).toNatClampNeg = 305 from rfl, g305]
      simp only [c1, if_true]
    | succ d ih =>
      intro c f hc hf
      obtain ⟨f, rfl⟩ : ∃ x, f = x + 1 := ⟨f - 1, by omega⟩
      show fX12_chance_s4 N _ _ (zI c) τ = _
      unfold fX12_chance_s4
      have c1 : (zI n ≤ zI c) = False := by rw [zI_le (by omega) (by omega) (by omega) (by omega)]; exact eq_false (by omega)
      rw [if_pos (by decide), show (305 : Int32).toNatClampNeg = 305 from rfl, g305]
      simp only [c1, if_false]
      have := inner c (fX12_chance_l4 N τ f) (zL (smN (chS κ k) c)) (by omega) 6 0 N (by omega) (by omega)
      refine (show fX12_chance_l22 N (fX12_chance_l4 N τ f) τ N (zL (smN (chS κ k) c)) (zI c) 1 0 = _ from this).trans ?_
      rw [zL_add]
      exact ih (c + 1) f (by omega) (by omega)
  unfold fX12_chance
  have := outer n 0 N (by omega) (by omega)
  rw [ch_vl hw hn (fun c hc => h6 c (by omega))] at this
  exact this
end SRC
