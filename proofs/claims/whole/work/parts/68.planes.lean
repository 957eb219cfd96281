/-! the planes of the tallies -/
def planes (m : Nat → Nat → Int32) (k : Nat) (f : Nat → Nat → Nat) : Prop := ∀ v p, v < 7 → p < 6 → m k (6 * v + p) = wd (fun y => (f v y).testBit p)
def ones (a p : Nat) : Bool := decide (a % 2 ^ p = 2 ^ p - 1)
theorem rip_tab : ∀ a, a < 64 → ∀ p, p < 6 → (a + 1).testBit p = (a.testBit p ^^ ones a p) ∧ ones a (p + 1) = (a.testBit p && ones a p) := by decide +kernel
theorem rip_tab2 : ∀ a, a < 64 → ∀ p, p < 7 → ∀ q, q < 6 → p ≤ q → ones a p = false → (a + 1).testBit q = a.testBit q := by decide +kernel
theorem ones_0 (a : Nat) : ones a 0 = true := by unfold ones; simp [Nat.mod_one]
theorem rip_at {a p : Nat} {c : Bool} (ha : a < 64) (hp : p < 6) : (a.testBit p ^^ (c && ones a p)) = (a + (if c then 1 else 0)).testBit p ∧ (a.testBit p && (c && ones a p)) = (c && ones a (p + 1)) := by
  obtain ⟨t1, t2⟩ := rip_tab a ha p hp
  cases c
  · simp
  · rw [if_pos rfl, t1, t2]; simp
theorem rip_stop {a p q : Nat} {c : Bool} (ha : a < 64) (hp : p < 7) (hq : q < 6) (hpq : p ≤ q) (h : (c && ones a p) = false) : a.testBit q = (a + (if c then 1 else 0)).testBit q := by
  cases c
  · simp
  · rw [if_pos rfl, rip_tab2 a ha p hp q hq hpq (by simpa using h)]
theorem e_ripple {N k1 v : Nat} {c3 : Int32 → Int32 → Int32 → Int32 → qMem → Option qMem} {c52 : Int32 → Int32 → Int32 → Int32 → Int32 → qMem → Option qMem} {v2 v3 v4 v5 : Int32} {s : qMem} {a : Nat → Nat} {c : Nat → Bool} {Q : qMem → Prop} (hN : 200000 ≤ N) (hv : v < 7) (ha : ∀ y, y < 32 → a y < 64) (hs : ∀ p, p < 6 → gi s k1 (6 * v + p) = wd (fun y => (a y).testBit p))
    (hQ : ∀ s', (∀ p, p < 6 → gi s' k1 (6 * v + p) = wd (fun y => (a y + (if c y then 1 else 0)).testBit p)) → (∀ k j, ¬ (k = k1 ∧ 6 * v ≤ j ∧ j < 6 * v + 6) → gi s' k j = gi s k j) → Ho (fX9_addMisses_b125 N k1 c3 c52 v2 v3 v4 v5 (zI v) s') Q) :
    Ho (fX9_addMisses_l80 N k1 c3 c52 N v2 v3 v4 v5 (zI v) (wd c) (zI ((6 * v : Nat) : Int)) s) Q := by
  have e0 : wd c = wd (fun y => c y && ones (a y) 0) := wd_congr fun y _ => by rw [ones_0]; simp
  rw [e0]
  have six : (zI (v : Int) + 1) * 6 = zI ((6 * v + 6 : Nat) : Int) := by
    rw [show (1 : Int32) = zI 1 from rfl, show (6 : Int32) = zI 6 from rfl, zI_add, zI_mul]; congr 1; omega
  have hst := lp_for (S := qMem) (R := qMem) (fun n p s => fX9_addMisses_l80 N k1 c3 c52 n v2 v3 v4 v5 (zI v) (wd (fun y => c y && ones (a y) p.toNat)) (zI ((6 * v + p.toNat : Nat) : Int)) s) (fun p s' => 0 ≤ p ∧ (∀ q : Nat, q < 6 → gi s' k1 (6 * v + q) = if (q : Int) < p then wd (fun y => (a y + (if c y then 1 else 0)).testBit q) else wd (fun y => (a y).testBit q)) ∧ (∀ k j, ¬ (k = k1 ∧ 6 * v ≤ j ∧ j < 6 * v + 6) → gi s' k j = gi s k j)) Q 6 ?_ ?_ N 0 s (by omega) (by omega) ⟨by omega, fun q hq => by rw [if_neg (by omega)]; exact hs q hq, fun _ _ _ => rfl⟩
  · exact hst
  · intro n s' ⟨_, h1, h2⟩
    show Ho (fX9_addMisses_s80 N k1 c3 c52 _ _ _ _ _ _ _ _ _) _
    unfold fX9_addMisses_s80
    have cc : ((zI (v : Int) + 1) * 6 ≤ zI ((6 * v + (6 : Int).toNat : Nat) : Int)) = True := by
      rw [six, zI_le (by omega) (by omega) (by omega) (by omega)]; exact eq_true (by omega)
    simp only [cc, if_true]
    exact hQ s' (fun p hp => by rw [h1 p hp, if_pos (by omega)]) h2
  · intro n p s' hp ⟨p0, h1, h2⟩ hc
    show Ho (fX9_addMisses_s80 N k1 c3 c52 _ _ _ _ _ _ _ _ _) _
    unfold fX9_addMisses_s80
    have cc : ((zI (v : Int) + 1) * 6 ≤ zI ((6 * v + p.toNat : Nat) : Int)) = False := by
      rw [six, zI_le (by omega) (by omega) (by omega) (by omega)]; exact eq_false (by omega)
    have ck8 : (ck (zI ((6 * v + p.toNat : Nat) : Int)) 42 = true) = True := zI_ckT (by omega) (by omega) (by omega)
    have z8 : (zI ((6 * v + p.toNat : Nat) : Int)).toNatClampNeg = 6 * v + p.toNat := by rw [zI_clamp (by omega) (by omega)]; rfl
    have p1 : zI ((6 * v + p.toNat : Nat) : Int) + 1 = zI ((6 * v + (p + 1).toNat : Nat) : Int) := by
      rw [show (1 : Int32) = zI 1 from rfl, zI_add]; congr 1; omega
    have g := h1 p.toNat (by omega)
    rw [if_neg (by omega)] at g
    simp only [cc, if_false, ck8, if_true, z8, p1, nmI, nmM, g]
    rw [wd_and, wd_xor]
    by_cases q : wd (fun y => c y && ones (a y) p.toNat) = 0
    · rw [if_pos q]
      have z := (wd_eq0 _).mp q
      refine hQ s' (fun r hr => ?_) h2
      rw [h1 r hr]
      by_cases w : (r : Int) < p
      · rw [if_pos w]
      · rw [if_neg w]
        exact wd_congr fun y hy => rip_stop (ha y hy) (show p.toNat < 7 by omega) hr (by omega) (z y hy)
    · rw [if_neg q]
      have e1 : wd (fun j => (a j).testBit p.toNat && (c j && ones (a j) p.toNat)) = wd (fun y => c y && ones (a y) (p + 1).toNat) := wd_congr fun y hy => by
        rw [show (p + 1).toNat = p.toNat + 1 by omega]
        exact (rip_at (ha y hy) (by omega)).2
      have e2 : wd (fun j => (a j).testBit p.toNat ^^ (c j && ones (a j) p.toNat)) = wd (fun y => (a y + (if c y then 1 else 0)).testBit p.toNat) := wd_congr fun y hy => (rip_at (ha y hy) (by omega)).1
      rw [e1, e2]
      refine hc _ ⟨by omega, fun r hr => ?_, fun k j hk => ?_⟩
      · rw [gi_si]
        by_cases w : r = p.toNat
        · rw [if_pos ⟨rfl, by omega⟩, if_pos (by omega), w]
        · rw [if_neg (by omega), h1 r hr]
          by_cases w2 : (r : Int) < p
          · rw [if_pos w2, if_pos (by omega)]
          · rw [if_neg w2, if_neg (by omega)]
      · rw [gi_si, if_neg (by omega)]
        exact h2 k j hk
theorem e_addMisses {N k1 b : Nat} {σ : qMem} {κ : Nat → Int32} {shift sheaf : Int} {f : Nat → Nat → Nat} (hN : 200000 ≤ N) (hs : seen σ.1 κ) (hk1 : k1 = 69 ∨ k1 = 70) (hb : b < 2) (l0 : -3 ≤ shift) (l1 : shift ≤ 3) (s0 : 0 ≤ sheaf) (s1 : sheaf < 224) (hf : planes σ.1 k1 f) (hbd : ∀ v y, v < 7 → y < 32 → f v y + (freshL κ b (newsL κ)).length ≤ 63) :
    Ho (fX9_addMisses N k1 (zI b) (zI shift) (zI sheaf) σ) (fun τ => planes τ.1 k1 (fun v y => f v y + missOf κ b shift (sheaf / 7) y (sheaf % 7 - 3) ((v : Int) - 3)) ∧ ∀ k j, k ≠ 62 → k ≠ 63 → k ≠ k1 → gi τ k j = gi σ k j) := by
  have hs0 := hs
  obtain ⟨bk, kw, fr, tu, r1, r2⟩ := hs
  have hlen := freshL_len κ b (newsL κ)
  have hl2 := newsL_len kw.2.2.1 kw.2.2.2.1
  have hsz := (fr b hb).1
  have hmo : ∀ (x y u v : Int), missOf κ b shift x y u v = (freshL κ b (newsL κ)).countP (fun it => !okB κ it shift x y u v) := by
    intro x y u v
    unfold missOf freshL
    rw [List.countP_filter]
    congr 1
    funext it
    rw [Bool.and_comm]
  simp only [hmo]
  unfold fX9_addMisses
  rw [show (0 : Int32) = zI 0 from rfl]
  generalize hL : freshL κ b (newsL κ) = L at *
  refine lp_for (S := qMem) (R := qMem) (fun n i s => fX9_addMisses_l3 N k1 n (zI (b : Int)) (zI shift) (zI sheaf) (zI i) s) (fun i s => 0 ≤ i ∧ planes s.1 k1 (fun v y => f v y + (L.take i.toNat).countP (fun it => !okB κ it shift (sheaf / 7) y (sheaf % 7 - 3) ((v : Int) - 3))) ∧ ∀ k j, k ≠ 62 → k ≠ 63 → k ≠ k1 → gi s k j = gi σ k j) _ L.length ?_ ?_ N 0 σ (by omega) (by omega) ⟨by omega, by intro v p hv hp; exact (hf v p hv hp).trans (wd_congr fun y _ => by simp), fun _ _ _ _ _ => rfl⟩
  · intro n s ⟨_, h1, h3⟩
    show Ho (fX9_addMisses_s3 N k1 _ _ _ _ _ _) _
    unfold fX9_addMisses_s3
    have cb : (ck (zI (b : Int)) 2 = true) = True := zI_ckT (by omega) (by omega) (by omega)
    have zb : (zI (b : Int)).toNatClampNeg = b := by rw [zI_clamp (by omega) (by omega)]; omega
    have g3 : gi s (46 + 2 * b) 3 = zI L.length := by rw [h3 _ _ (by omega) (by omega) (by omega)]; exact hsz
    have cn : (zI (L.length : Int) ≤ zI (L.length : Int)) = True := by rw [zI_le (by omega) (by omega) (by omega) (by omega)]; exact eq_true (by omega)
    simp only [cb, if_true, zb, g3, cn]
    refine Ho_some ⟨?_, h3⟩
    have e : L.take ((L.length : Int).toNat) = L := by rw [show ((L.length : Int)).toNat = L.length by omega, List.take_length]
    rw [e] at h1
    exact h1
  · intro n i s hi ⟨i0, h1, h3⟩ hc
    show Ho (fX9_addMisses_s3 N k1 _ _ _ _ _ _) _
    unfold fX9_addMisses_s3
    have cb : (ck (zI (b : Int)) 2 = true) = True := zI_ckT (by omega) (by omega) (by omega)
    have zb : (zI (b : Int)).toNatClampNeg = b := by rw [zI_clamp (by omega) (by omega)]; omega
    have g3 : gi s (46 + 2 * b) 3 = zI L.length := by rw [h3 _ _ (by omega) (by omega) (by omega)]; exact hsz
    have cn : (zI (L.length : Int) ≤ zI i) = False := by rw [zI_le (by omega) (by omega) (by omega) (by omega)]; exact eq_false (by omega)
    simp only [cb, if_true, zb, g3, cn, if_false]
    have hil : i.toNat < L.length := by omega
    obtain ⟨it, hit⟩ : ∃ it, L[i.toNat]? = some it := ⟨L[i.toNat], List.getElem?_eq_getElem hil⟩
    have hseen : seen s.1 κ := seen_c (m := σ.1) (m' := s.1) (fun k j q => h3 k j (by omega) (by omega) (by omega)) hs0
    have hit' : (freshL κ b (newsL κ))[i.toNat]? = some it := by rw [hL]; exact hit
    obtain ⟨a0, a1, a2⟩ := e_freshAt hseen hb hit'
    have hvd := fresh_mem hit'
    have rr := it_rng kw.2.2.1 kw.2.2.2.1 hvd.1
    rw [show ((i.toNat : Nat) : Int) = i by omega] at a1
    rw [show fX8_at (46 + 2 * b) 108 (zI i) 1 s = _ from a1, Option.bind_some, zI_add]
    have hlk := e_look (bell := itF κ it 1 + shift) hN hseen hb hit' (by omega) (by omega) s0 s1
    rw [show ((i.toNat : Nat) : Int) = i by omega] at hlk
    refine Ho_bind hlk fun ρ1 ⟨w1, w2⟩ => ?_
    rw [show (0 : Int32) = zI 0 from rfl]
    refine lp_for (S := qMem) (R := qMem) (fun m v s => fX9_addMisses_l52 N k1 (fX9_addMisses_l3 N k1 n) m (zI (b : Int)) (zI shift) (zI sheaf) (zI i) (zI v) s) (fun v s => 0 ≤ v ∧ (∀ w p : Nat, w < 7 → p < 6 → gi s k1 (6 * w + p) = wd (fun y => (f w y + (L.take (if (w : Int) < v then i.toNat + 1 else i.toNat)).countP (fun it => !okB κ it shift (sheaf / 7) y (sheaf % 7 - 3) ((w : Int) - 3))).testBit p)) ∧ (∀ k j, k ≠ 62 → k ≠ 63 → k ≠ k1 → gi s k j = gi σ k j) ∧ ∀ j, gi s 63 j = gi ρ1 63 j) _ 7 ?_ ?_ N 0 ρ1 (by omega) (by omega) ?_
    · intro m s ⟨_, g1, g3', _⟩
      show Ho (fX9_addMisses_s52 N k1 _ _ _ _ _ _ _ _) _
      unfold fX9_addMisses_s52
      rw [if_pos (by decide), show zI i + 1 = zI (i + 1) from zI_add i 1]
      refine hc s ⟨by omega, fun v p hv hp => ?_, g3'⟩
      refine (g1 v p hv hp).trans ?_
      rw [if_pos (by omega), show (i + 1).toNat = i.toNat + 1 by omega]
    · intro m v μ hv ⟨v0, g1, g3', g4⟩ hc2
      show Ho (fX9_addMisses_s52 N k1 _ _ _ _ _ _ _ _) _
      unfold fX9_addMisses_s52
      have c7 : (7 ≤ zI v) = False := by rw [zl_7, zI_le (by omega) (by omega) (by omega) (by omega)]; exact eq_false (by omega)
      have c77 : (ck (zI v) 7 = true) = True := zI_ckT v0 (by omega) (by omega)
      have z77 : (zI v).toNatClampNeg = v.toNat := zI_clamp v0 (by omega)
      have v6 : zI v * 6 = zI ((6 * v.toNat : Nat) : Int) := by rw [show (6 : Int32) = zI 6 from rfl, zI_mul]; congr 1; omega
      have ew : gi μ 63 v.toNat ^^^ (-1) = wd (fun y => !okB κ it shift (sheaf / 7) y (sheaf % 7 - 3) (((v.toNat : Nat) : Int) - 3)) := by
        rw [g4, w1 _ (by omega), wd_not]
        rfl
      simp only [c7, if_false, c77, if_true, z77, v6, nmI, ew]
      have zv : zI v = zI ((v.toNat : Nat) : Int) := by congr 1; omega
      rw [zv]
      refine e_ripple (a := fun y => f v.toNat y + (L.take i.toNat).countP (fun it => !okB κ it shift (sheaf / 7) y (sheaf % 7 - 3) (((v.toNat : Nat) : Int) - 3))) hN (by omega) (fun y hy => ?_) (fun p hp => ?_) (fun s' k1' k2 => ?_)
      · have := hbd v.toNat y (by omega) hy
        have c1 : (L.take i.toNat).countP (fun it => !okB κ it shift (sheaf / 7) y (sheaf % 7 - 3) (((v.toNat : Nat) : Int) - 3)) ≤ (L.take i.toNat).length := List.countP_le_length
        rw [List.length_take] at c1
        omega
      · rw [g1 v.toNat p (by omega) hp, if_neg (by omega)]
      · unfold fX9_addMisses_b125
        rw [← zv, show zI v + 1 = zI (v + 1) from zI_add v 1]
        refine hc2 s' ⟨by omega, fun w p hw hp => ?_, fun k j q1 q2 q3 => ?_, fun j => ?_⟩
        · by_cases e : w = v.toNat
          · rw [if_pos (by omega), e, k1' p hp]
            apply wd_congr
            intro y _
            rw [countP_take_succ hit, Nat.add_assoc]
          · rw [k2 k1 (6 * w + p) (by omega), g1 w p hw hp]
            by_cases e2 : (w : Int) < v
            · rw [if_pos e2, if_pos (by omega)]
            · rw [if_neg e2, if_neg (by omega)]
        · rw [k2 k j (by omega)]; exact g3' k j q1 q2 q3
        · rw [k2 63 j (by omega)]; exact g4 j
    · refine ⟨by omega, fun w p hw hp => ?_, fun k j q1 q2 q3 => (w2 k j q1 q2).trans (h3 k j q1 q2 q3), fun _ => rfl⟩
      rw [w2 _ _ (by omega) (by omega), if_neg (by omega)]
      exact h1 w p hw hp
