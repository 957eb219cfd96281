/-! rows that grow, on both sides -/
theorem zI_ckT {a : Int} {n : Nat} (h1 : 0 ≤ a) (h2 : a < n) (h3 : a < 2147483648) : (ck (zI a) n = true) = True := by
  rw [zI_ck (by omega) h3, decide_eq_true ⟨h1, h2⟩]
  simp
def v5 (a b c d e : Int32) (i : Nat) : Int32 := if i = 0 then a else if i = 1 then b else if i = 2 then c else if i = 3 then d else e
theorem gch1 {τ : qMem} {r a0 : Nat} {x : Int32} (y z p q : Int32) : ∀ k j, gi (si τ r a0 x) k j = if k = r ∧ a0 ≤ j ∧ j < a0 + 1 then v5 x y z p q (j - a0) else gi τ k j := by
  intro k j
  rw [gi_si]
  by_cases h : k = r ∧ j = a0
  · rw [if_pos h, if_pos (by omega), show j - a0 = 0 by omega]; rfl
  · rw [if_neg h, if_neg (by omega)]
theorem gch2 {τ : qMem} {r a0 a1 : Nat} {x y : Int32} (z p q : Int32) (h1 : a1 = a0 + 1) : ∀ k j, gi (si (si τ r a0 x) r a1 y) k j = if k = r ∧ a0 ≤ j ∧ j < a0 + 2 then v5 x y z p q (j - a0) else gi τ k j := by
  intro k j
  rw [gi_si, gch1 y z p q]
  by_cases h : k = r ∧ j = a1
  · rw [if_pos h, if_pos (by omega), show j - a0 = 1 by omega]; rfl
  · rw [if_neg h]
    by_cases g : k = r ∧ a0 ≤ j ∧ j < a0 + 1
    · rw [if_pos g, if_pos (by omega)]
    · rw [if_neg g, if_neg (by omega)]
theorem gch3 {τ : qMem} {r a0 a1 a2 : Nat} {x y z : Int32} (p q : Int32) (h1 : a1 = a0 + 1) (h2 : a2 = a0 + 2) : ∀ k j, gi (si (si (si τ r a0 x) r a1 y) r a2 z) k j = if k = r ∧ a0 ≤ j ∧ j < a0 + 3 then v5 x y z p q (j - a0) else gi τ k j := by
  intro k j
  rw [gi_si, gch2 z p q h1]
  by_cases h : k = r ∧ j = a2
  · rw [if_pos h, if_pos (by omega), show j - a0 = 2 by omega]; rfl
  · rw [if_neg h]
    by_cases g : k = r ∧ a0 ≤ j ∧ j < a0 + 2
    · rw [if_pos g, if_pos (by omega)]
    · rw [if_neg g, if_neg (by omega)]
theorem gch4 {τ : qMem} {r a0 a1 a2 a3 : Nat} {x y z p : Int32} (q : Int32) (h1 : a1 = a0 + 1) (h2 : a2 = a0 + 2) (h3 : a3 = a0 + 3) : ∀ k j, gi (si (si (si (si τ r a0 x) r a1 y) r a2 z) r a3 p) k j = if k = r ∧ a0 ≤ j ∧ j < a0 + 4 then v5 x y z p q (j - a0) else gi τ k j := by
  intro k j
  rw [gi_si, gch3 p q h1 h2]
  by_cases h : k = r ∧ j = a3
  · rw [if_pos h, if_pos (by omega), show j - a0 = 3 by omega]; rfl
  · rw [if_neg h]
    by_cases g : k = r ∧ a0 ≤ j ∧ j < a0 + 3
    · rw [if_pos g, if_pos (by omega)]
    · rw [if_neg g, if_neg (by omega)]
theorem gch5 {τ : qMem} {r a0 a1 a2 a3 a4 : Nat} {x y z p q : Int32} (h1 : a1 = a0 + 1) (h2 : a2 = a0 + 2) (h3 : a3 = a0 + 3) (h4 : a4 = a0 + 4) : ∀ k j, gi (si (si (si (si (si τ r a0 x) r a1 y) r a2 z) r a3 p) r a4 q) k j = if k = r ∧ a0 ≤ j ∧ j < a0 + 5 then v5 x y z p q (j - a0) else gi τ k j := by
  intro k j
  rw [gi_si, gch4 q h1 h2 h3]
  by_cases h : k = r ∧ j = a4
  · rw [if_pos h, if_pos (by omega), show j - a0 = 4 by omega]; rfl
  · rw [if_neg h]
    by_cases g : k = r ∧ a0 ≤ j ∧ j < a0 + 4
    · rw [if_pos g, if_pos (by omega)]
    · rw [if_neg g, if_neg (by omega)]
theorem e_put {σ : qMem} {k n : Nat} {w mo s col : Int} {v : Int32} (hw : gi σ k 0 = zI w) (hm : gi σ k 1 = zI mo) (hs : gi σ k 3 = zI s) (h1 : 1 ≤ w) (h2 : w ≤ 5) (h3 : 0 ≤ s) (h4 : s < mo) (h5 : mo ≤ 100) (h6 : 0 ≤ col) (h7 : col ≤ 4) (hn : w * mo ≤ n) : fX8_put k n (zI col) v σ = some (if col < w then si σ (k + 1) (s * w + col).toNat v else σ) := by
  have hp : s * w ≤ (mo - 1) * w := Int.mul_le_mul_of_nonneg_right (by omega) (by omega)
  have hp2 : (mo - 1) * w = w * mo - w := by rw [Int.sub_mul, Int.one_mul, Int.mul_comm]
  have hp3 : 0 ≤ s * w := Int.mul_nonneg h3 (by omega)
  have hp4 : (mo - 1) * w ≤ 99 * 5 := Int.mul_le_mul (by omega) h2 (by omega) (by omega)
  unfold fX8_put
  simp (disch := omega) only [hw, hm, hs, zI_le, zI_mul, zI_add]
  by_cases q : col < w
  · rw [if_neg (by omega), if_neg (by omega), if_pos q]
    simp (disch := omega) only [zI_ckT, zI_clamp, if_true]
  · rw [if_pos (by omega), if_neg q]
/-- a row is added -/
theorem e_add {σ : qMem} {k n : Nat} {w mo s : Int} (a b c d e : Int32) (hw : gi σ k 0 = zI w) (hm : gi σ k 1 = zI mo) (hs : gi σ k 3 = zI s) (h1 : 1 ≤ w) (h2 : w ≤ 5) (h3 : 0 ≤ s) (h4 : s < mo) (h5 : mo ≤ 100) (hn : w * mo ≤ n) :
    ∃ σ1, fX8_add k n a b c d e σ = some (zI s, σ1) ∧ ∀ k' j, gi σ1 k' j = if k' = k ∧ j = 3 then zI (s + 1) else if k' = k + 1 ∧ (s * w).toNat ≤ j ∧ j < (s * w).toNat + w.toNat then v5 a b c d e (j - (s * w).toNat) else gi σ k' j := by
  have hp3 : 0 ≤ s * w := Int.mul_nonneg h3 (by omega)
  have ne : ∀ (ρ : qMem) (x : Nat) (v : Int32) (j : Nat), gi (si ρ (k + 1) x v) k j = gi ρ k j := fun ρ x v j => by rw [gi_si, if_neg (by omega)]
  have P : ∀ (ρ : qMem) (col : Int) (v : Int32), gi ρ k 0 = zI w → gi ρ k 1 = zI mo → gi ρ k 3 = zI s → 0 ≤ col → col ≤ 4 → fX8_put k n (zI col) v ρ = some (if col < w then si ρ (k + 1) (s * w + col).toNat v else ρ) := fun ρ col v g0 g1 g2 g3 g4 => e_put g0 g1 g2 h1 h2 h3 h4 h5 g3 g4 hn
  have Q : ∀ (ρ : qMem) (col : Int) (v : Int32) (j : Nat), gi (if col < w then si ρ (k + 1) (s * w + col).toNat v else ρ) k j = gi ρ k j := by
    intro ρ col v j
    by_cases q : col < w
    · rw [if_pos q, ne]
    · rw [if_neg q]
  unfold fX8_add fX8_isFull
  rw [hs, hm]
  simp (disch := omega) only [zI_lt, h4, if_true, Option.bind_some]
  have e0 : fX8_put k n 0 a σ = _ := P σ 0 a hw hm hs (by omega) (by omega)
  rw [e0, Option.bind_some]
  generalize r1d : (if 0 < w then si σ (k + 1) (s * w + 0).toNat a else σ) = r1
  have r1g : ∀ j, gi r1 k j = gi σ k j := fun j => by rw [← r1d]; exact Q σ 0 a j
  have e1 : fX8_put k n 1 b r1 = _ := P r1 1 b (by rw [r1g, hw]) (by rw [r1g, hm]) (by rw [r1g, hs]) (by omega) (by omega)
  rw [e1, Option.bind_some]
  generalize r2d : (if 1 < w then si r1 (k + 1) (s * w + 1).toNat b else r1) = r2
  have r2g : ∀ j, gi r2 k j = gi σ k j := fun j => by rw [← r2d, ← r1g]; exact Q r1 1 b j
  have e2 : fX8_put k n 2 c r2 = _ := P r2 2 c (by rw [r2g, hw]) (by rw [r2g, hm]) (by rw [r2g, hs]) (by omega) (by omega)
  rw [e2, Option.bind_some]
  generalize r3d : (if 2 < w then si r2 (k + 1) (s * w + 2).toNat c else r2) = r3
  have r3g : ∀ j, gi r3 k j = gi σ k j := fun j => by rw [← r3d, ← r2g]; exact Q r2 2 c j
  have e3 : fX8_put k n 3 d r3 = _ := P r3 3 d (by rw [r3g, hw]) (by rw [r3g, hm]) (by rw [r3g, hs]) (by omega) (by omega)
  rw [e3, Option.bind_some]
  generalize r4d : (if 3 < w then si r3 (k + 1) (s * w + 3).toNat d else r3) = r4
  have r4g : ∀ j, gi r4 k j = gi σ k j := fun j => by rw [← r4d, ← r3g]; exact Q r3 3 d j
  have e4 : fX8_put k n 4 e r4 = _ := P r4 4 e (by rw [r4g, hw]) (by rw [r4g, hm]) (by rw [r4g, hs]) (by omega) (by omega)
  rw [e4, Option.bind_some]
  generalize r5d : (if 4 < w then si r4 (k + 1) (s * w + 4).toNat e else r4) = r5
  have r5g : ∀ j, gi r5 k j = gi σ k j := fun j => by rw [← r5d, ← r4g]; exact Q r4 4 e j
  refine ⟨si r5 k 3 (zI (s + 1)), ?_, ?_⟩
  · show some (gi (si r5 k 3 (gi r5 k 3 + 1)) k 3 - 1, si r5 k 3 (gi r5 k 3 + 1)) = _
    rw [r5g, hs, show (1 : Int32) = zI 1 from rfl, zI_add, gi_si, if_pos ⟨rfl, rfl⟩, zI_sub, show s + 1 - 1 = s by omega]
  · intro k' j
    rw [gi_si]
    by_cases q : k' = k ∧ j = 3
    · rw [if_pos q, if_pos q]
    · rw [if_neg q, if_neg q]
      rcases (by omega : w = 1 ∨ w = 2 ∨ w = 3 ∨ w = 4 ∨ w = 5) with rfl | rfl | rfl | rfl | rfl
      · rw [← r5d, if_neg (by omega), ← r4d, if_neg (by omega), ← r3d, if_neg (by omega), ← r2d, if_neg (by omega), ← r1d, if_pos (by omega), gch1 b c d e, show (s * 1 + 0).toNat = (s * 1).toNat by omega]
        rfl
      · rw [← r5d, if_neg (by omega), ← r4d, if_neg (by omega), ← r3d, if_neg (by omega), ← r2d, if_pos (by omega), ← r1d, if_pos (by omega), gch2 c d e (by omega), show (s * 2 + 0).toNat = (s * 2).toNat by omega]
        rfl
      · rw [← r5d, if_neg (by omega), ← r4d, if_neg (by omega), ← r3d, if_pos (by omega), ← r2d, if_pos (by omega), ← r1d, if_pos (by omega), gch3 d e (by omega) (by omega), show (s * 3 + 0).toNat = (s * 3).toNat by omega]
        rfl
      · rw [← r5d, if_neg (by omega), ← r4d, if_pos (by omega), ← r3d, if_pos (by omega), ← r2d, if_pos (by omega), ← r1d, if_pos (by omega), gch4 e (by omega) (by omega) (by omega), show (s * 4 + 0).toNat = (s * 4).toNat by omega]
        rfl
      · rw [← r5d, if_pos (by omega), ← r4d, if_pos (by omega), ← r3d, if_pos (by omega), ← r2d, if_pos (by omega), ← r1d, if_pos (by omega), gch5 (by omega) (by omega) (by omega) (by omega), show (s * 5 + 0).toNat = (s * 5).toNat by omega]
        rfl
theorem e_full {σ : qMem} {k n : Nat} {mo s : Int} (hm : gi σ k 1 = zI mo) (hs : gi σ k 3 = zI s) (h3 : 0 ≤ s) (h4 : s ≤ mo) (h5 : mo ≤ 100) : fX8_isFull k n σ = some (bI (decide (mo ≤ s))) := by
  unfold fX8_isFull
  rw [hm, hs]
  simp (disch := omega) only [zI_lt]
  by_cases q : s < mo
  · rw [if_pos q, decide_eq_false (by omega)]; rfl
  · rw [if_neg q, decide_eq_true (by omega)]; rfl
/-! parts of the book, carried on -/
theorem rowE_k {m m' : Nat → Nat → Int32} {k len : Nat} {κ κ' : Nat → Int32} {base cnt : Nat} (h1 : m' k 3 = m k 3) (h2 : ∀ j, m' (k + 1) j = m (k + 1) j) (h3 : κ' cnt = κ cnt) (h4 : ∀ j, base ≤ j → j < base + len → κ' j = κ j) (h : rowE m k len κ base cnt) : rowE m' k len κ' base cnt :=
  ⟨by rw [h1, h3]; exact h.1, fun j hj => by rw [h2, h4 _ (by omega) (by omega)]; exact h.2 j hj⟩
theorem rowE_add {m m' : Nat → Nat → Int32} {k len a w : Nat} {κ κ' : Nat → Int32} {base cnt : Nat} {v : Nat → Int32} {n : Int32} (h1 : m' k 3 = n) (h2 : ∀ j, m' (k + 1) j = if a ≤ j ∧ j < a + w then v (j - a) else m (k + 1) j) (h3 : κ' cnt = n) (h4 : ∀ j, base ≤ j → j < base + len → κ' j = if base + a ≤ j ∧ j < base + a + w then v (j - (base + a)) else κ j) (h : rowE m k len κ base cnt) : rowE m' k len κ' base cnt := by
  refine ⟨by rw [h1, h3], fun j hj => ?_⟩
  rw [h2, h4 _ (by omega) (by omega)]
  by_cases q : a ≤ j ∧ j < a + w
  · rw [if_pos q, if_pos (by omega), show base + j - (base + a) = j - a by omega]
  · rw [if_neg q, if_neg (by omega)]
    exact h.2 j hj
section P4
variable {κ κ' : Nat → Int32}
def same44 (κ κ' : Nat → Int32) : Prop := ∀ j : Nat, j < 44 → κ' j = κ j
theorem kI_e {j : Int} (h : κ' j.toNat = κ j.toNat) : kI κ' j = kI κ j := by unfold kI; rw [h]
theorem kI_4 (h : same44 κ κ') {j : Int} (c : j < 44) : kI κ' j = kI κ j := kI_e (h _ (by omega))
theorem velR_4 (h : same44 κ κ') {b w bell : Int} (h0 : 0 ≤ b) (h1 : b ≤ 1) (hw : w = 0 ∨ w = 1) (n : Nat) (hn : n ≤ 6) : velR κ' b w bell n = velR κ b w bell n := by
  induction n with
  | zero => rfl
  | succ n ih =>
    have e1 : legB κ' b n = legB κ b n := kI_4 h (by omega)
    have e2 : legV κ' b n w = legV κ b n w := kI_4 h (by omega)
    rw [velR, velR, ih (by omega), e1, e2]
theorem velS_4 (h : same44 κ κ') (hk : KB κ) {b w bell : Int} (h0 : 0 ≤ b) (h1 : b ≤ 1) (hw : w = 0 ∨ w = 1) : velS κ' b w bell = velS κ b w bell := by
  have := (hk b h0 h1).2.2.2.1
  have e : legN κ' b = legN κ b := kI_4 h (by omega)
  unfold velS
  rw [e, velR_4 h h0 h1 hw _ (by omega)]
theorem pos_4 (h : same44 κ κ') (hk : KB κ) {b bell w : Int} (h0 : 0 ≤ b) (h1 : b ≤ 1) (hw : w = 0 ∨ w = 1) : pos κ' b bell w = pos κ b bell w := by
  unfold pos
  generalize bell.toNat = n
  induction n with
  | zero => exact kI_4 h (by omega)
  | succ n ih => rw [posN, posN, ih, velS_4 h hk h0 h1 hw]
theorem spd_4 (h : same44 κ κ') (hk : KB κ) {b bell : Int} (h0 : 0 ≤ b) (h1 : b ≤ 1) : spd κ' b bell = spd κ b bell := by
  unfold spd
  rw [velS_4 h hk h0 h1 (Or.inl rfl), velS_4 h hk h0 h1 (Or.inr rfl)]
theorem boatT_k {m m' : Nat → Nat → Int32} {o b : Nat} (hb : b < 2) (hk : KB κ) (h : same44 κ κ') (hm : ∀ k j, o ≤ k → k ≤ o + 5 → m' k j = m k j) (hbt : boatT m o κ b) : boatT m' o κ' b := by
  obtain ⟨h1, h2, h3⟩ := hbt
  refine ⟨?_, rowE_k (hm _ _ (by omega) (by omega)) (fun j => hm _ _ (by omega) (by omega)) (h _ (by omega)) (fun j _ _ => h _ (by omega)) h2, fun j hj => ?_⟩
  · rw [hm _ _ (by omega) (by omega), h _ (by omega)]; exact h1
  · rw [hm _ _ (by omega) (by omega), hm _ _ (by omega) (by omega), hm _ _ (by omega) (by omega), pos_4 h hk (by omega) (by omega) (Or.inl rfl), pos_4 h hk (by omega) (by omega) (Or.inr rfl), spd_4 h hk (by omega) (by omega)]
    exact h3 j hj
theorem KB_k (h : same44 κ κ') (hk : KB κ) : KB κ' := by
  intro b h0 h1
  obtain ⟨a1, a2, a3, a4, a5, a6⟩ := hk b h0 h1
  have e : legN κ' b = legN κ b := kI_4 h (by omega)
  have eB : ∀ l : Int, 0 ≤ l → l < 6 → legB κ' b l = legB κ b l := fun l _ _ => kI_4 h (by omega)
  have eV : ∀ l w : Int, 0 ≤ l → l < 6 → w = 0 ∨ w = 1 → legV κ' b l w = legV κ b l w := fun l w _ _ _ => kI_4 h (by omega)
  have eD : depS κ' b = depS κ b := kI_4 h (by omega)
  rw [kI_4 h (j := 22 * b) (by omega), kI_4 h (j := 22 * b + 1) (by omega), eD, e]
  refine ⟨a1, a2, a3, a4, fun l l0 l1 => ?_, fun l l0 l1 => ?_⟩
  · rw [eB l l0 (by omega), eV l 0 l0 (by omega) (Or.inl rfl), eV l 1 l0 (by omega) (Or.inr rfl)]
    exact a5 l l0 l1
  · rw [eB l l0 (by omega), eB (l + 1) (by omega) (by omega)]
    exact a6 l l0 l1
theorem KT_k (h : ∀ j : Nat, (44 ≤ j ∧ j < 50) ∨ j = 310 → κ' j = κ j) (hk : KT κ) : KT κ' := by
  unfold KT
  rw [kI_e (κ := κ) (κ' := κ') (j := 44) (h 44 (by omega)), kI_e (κ := κ) (κ' := κ') (j := 45) (h 45 (by omega)), kI_e (κ := κ) (κ' := κ') (j := 46) (h 46 (by omega)), kI_e (κ := κ) (κ' := κ') (j := 47) (h 47 (by omega)), kI_e (κ := κ) (κ' := κ') (j := 48) (h 48 (by omega)), kI_e (κ := κ) (κ' := κ') (j := 49) (h 49 (by omega)), kI_e (κ := κ) (κ' := κ') (j := 310) (h 310 (by omega))]
  exact hk
theorem KH_k (h : ∀ j : Nat, (80 ≤ j ∧ j < 152) ∨ j = 300 → κ' j = κ j) (hk : KH κ) : KH κ' := by
  have e : kI κ' 300 = kI κ 300 := kI_e (h 300 (by omega))
  unfold KH
  rw [e]
  refine ⟨hk.1, fun x h0 h1 => ?_⟩
  have := hk.1
  rw [kI_e (j := 80 + 3 * x) (h _ (by omega)), kI_e (j := 80 + 3 * x + 1) (h _ (by omega)), kI_e (j := 80 + 3 * x + 2) (h _ (by omega))]
  exact hk.2 x h0 h1
theorem KE_k (h : ∀ j : Nat, (152 ≤ j ∧ j < 188) ∨ j = 301 → κ' j = κ j) (hk : KE κ) : KE κ' := by
  have e : kI κ' 301 = kI κ 301 := kI_e (h 301 (by omega))
  unfold KE
  rw [e]
  refine ⟨hk.1, fun x h0 h1 => ?_⟩
  have := hk.1
  rw [kI_e (j := 152 + 3 * x) (h _ (by omega)), kI_e (j := 152 + 3 * x + 1) (h _ (by omega)), kI_e (j := 152 + 3 * x + 2) (h _ (by omega))]
  exact hk.2 x h0 h1
theorem KR_k (h : ∀ j : Nat, (188 ≤ j ∧ j < 204) ∨ j = 302 → κ' j = κ j) (hk : KR κ) : KR κ' := by
  have e : kI κ' 302 = kI κ 302 := kI_e (h 302 (by omega))
  unfold KR
  rw [e]
  refine ⟨hk.1, fun x h0 h1 => ?_⟩
  have := hk.1
  rw [kI_e (j := 188 + 2 * x) (h _ (by omega)), kI_e (j := 188 + 2 * x + 1) (h _ (by omega))]
  exact hk.2 x h0 h1
theorem KS_k (h : ∀ j : Nat, (238 ≤ j ∧ j < 268) ∨ j = 308 → κ' j = κ j) (hk : KS κ) : KS κ' := by
  have e : kI κ' 308 = kI κ 308 := kI_e (h 308 (by omega))
  unfold KS
  rw [e]
  refine ⟨hk.1, fun x h0 h1 => ?_⟩
  have := hk.1
  rw [kI_e (j := 238 + 5 * x) (h _ (by omega)), kI_e (j := 238 + 5 * x + 1) (h _ (by omega)), kI_e (j := 238 + 5 * x + 2) (h _ (by omega)), kI_e (j := 238 + 5 * x + 3) (h _ (by omega)), kI_e (j := 238 + 5 * x + 4) (h _ (by omega))]
  exact hk.2 x h0 h1
theorem KG_k (h : ∀ j : Nat, (268 ≤ j ∧ j < 300) ∨ j = 309 → κ' j = κ j) (hk : KG κ) : KG κ' := by
  have e : kI κ' 309 = kI κ 309 := kI_e (h 309 (by omega))
  unfold KG
  rw [e]
  refine ⟨hk.1, fun x h0 h1 => ?_⟩
  have := hk.1
  rw [kI_e (j := 268 + 4 * x) (h _ (by omega)), kI_e (j := 268 + 4 * x + 1) (h _ (by omega)), kI_e (j := 268 + 4 * x + 2) (h _ (by omega)), kI_e (j := 268 + 4 * x + 3) (h _ (by omega))]
  exact hk.2 x h0 h1
theorem KO_k (h : ∀ j : Nat, (204 ≤ j ∧ j < 220) ∨ j = 303 → κ' j = κ j) (hk : KO κ) : KO κ' := by
  have e : kI κ' 303 = kI κ 303 := kI_e (h 303 (by omega))
  unfold KO
  rw [e]
  refine ⟨hk.1, fun x h0 h1 => ?_⟩
  have := hk.1
  rw [kI_e (j := 204 + 2 * x) (h _ (by omega)), kI_e (j := 204 + 2 * x + 1) (h _ (by omega))]
  exact hk.2 x h0 h1
theorem KP_k (h : ∀ j : Nat, (220 ≤ j ∧ j < 226) ∨ j = 304 → κ' j = κ j) (hk : KP κ) : KP κ' := by
  have e : kI κ' 304 = kI κ 304 := kI_e (h 304 (by omega))
  unfold KP
  rw [e]
  refine ⟨hk.1, fun x h0 h1 => ?_⟩
  have := hk.1
  rw [kI_e (j := 220 + x) (h _ (by omega))]
  exact hk.2 x h0 h1
theorem KC_k (h : ∀ j : Nat, (226 ≤ j ∧ j < 238) ∨ j = 305 → κ' j = κ j) (hk : KC κ) : KC κ' := by
  have e : kI κ' 305 = kI κ 305 := kI_e (h 305 (by omega))
  unfold KC
  rw [e]
  refine ⟨hk.1, fun x h0 h1 => ?_⟩
  have := hk.1
  rw [kI_e (j := 226 + 2 * x) (h _ (by omega)), kI_e (j := 226 + 2 * x + 1) (h _ (by omega))]
  exact hk.2 x h0 h1
end P4
