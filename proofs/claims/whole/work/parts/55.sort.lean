/-! what is new, on both sides -/
theorem newsK_succ (κ : Nat → Int32) (e : Bool) (n : Nat) : newsK κ e (n + 1) = newsK κ e n ++ (if knownB κ (e, n) = true then [] else [(e, n)]) := by
  unfold newsK
  rw [List.range_succ, List.filter_append, List.map_append]
  congr 1
  cases h : knownB κ (e, n) <;> simp [h]
def newsAt (t : Nat → Nat → Int32) (κ : Nat → Int32) (L : List (Bool × Nat)) : Prop :=
  t 0 10 = zI L.length ∧ ∀ i it, L[i]? = some it → t 6 (4 * i) = zI (itF κ it 0) ∧ t 6 (4 * i + 1) = zI (itF κ it 1) ∧ t 6 (4 * i + 2) = bI it.1 ∧ t 6 (4 * i + 3) = zI it.2
theorem r_laysNew {τ : qMem} {κ : Nat → Int32} {L : List (Bool × Nat)} {it : Bool × Nat} (hL : newsAt τ.1 κ L) (hl : L.length < 36) : Ho (fX12_laysNew (zI (itF κ it 0)) (zI (itF κ it 1)) (bI it.1) (zI it.2) τ) (fun t => newsAt t.1 κ (L ++ [it]) ∧ ∀ k j, k ≠ 6 → ¬ (k = 0 ∧ j = 10) → gi t k j = gi τ k j) := by
  have g10 : gi τ 0 10 = zI L.length := hL.1
  have ne : ∀ (ρ : qMem) (x : Nat) (v : Int32) (j : Nat), gi (si ρ 6 x v) 0 j = gi ρ 0 j := fun ρ x v j => by rw [gi_si, if_neg (by omega)]
  unfold fX12_laysNew
  simp (disch := omega) only [nmM, ne, g10, zl_1, zl_2, zl_3, zl_4, zI_mul, zI_add, zI_ckT, zI_clamp, if_true]
  have g := gch4 (τ := τ) (r := 6) (a0 := (4 * (L.length : Int)).toNat) (a1 := (4 * (L.length : Int) + 1).toNat) (a2 := (4 * (L.length : Int) + 2).toNat) (a3 := (4 * (L.length : Int) + 3).toNat) (x := zI (itF κ it 0)) (y := zI (itF κ it 1)) (z := bI it.1) (p := zI it.2) 0 (by omega) (by omega) (by omega)
  refine Ho_some ⟨⟨?_, fun i jt hi => ?_⟩, fun k j h1 h2 => ?_⟩
  · show gi _ 0 10 = _
    rw [gi_si, if_pos ⟨rfl, rfl⟩, List.length_append]
    congr 1
  · have get : ∀ j, gi (si (si (si (si (si τ 6 (4 * (L.length : Int)).toNat (zI (itF κ it 0))) 6 (4 * (L.length : Int) + 1).toNat (zI (itF κ it 1))) 6 (4 * (L.length : Int) + 2).toNat (bI it.1)) 6 (4 * (L.length : Int) + 3).toNat (zI it.2)) 0 10 (zI ((L.length : Int) + 1))) 6 j = if 4 * L.length ≤ j ∧ j < 4 * L.length + 4 then v5 (zI (itF κ it 0)) (zI (itF κ it 1)) (bI it.1) (zI it.2) 0 (j - 4 * L.length) else gi τ 6 j := by
      intro j
      rw [gi_si, if_neg (by omega), g, show (4 * (L.length : Int)).toNat = 4 * L.length by omega]
      by_cases q : 4 * L.length ≤ j ∧ j < 4 * L.length + 4
      · rw [if_pos ⟨rfl, q⟩, if_pos q]
      · rw [if_neg (fun z => q z.2), if_neg q]
    show gi _ 6 (4 * i) = _ ∧ gi _ 6 (4 * i + 1) = _ ∧ gi _ 6 (4 * i + 2) = _ ∧ gi _ 6 (4 * i + 3) = _
    rw [get, get, get, get]
    by_cases q : i < L.length
    · rw [List.getElem?_append_left q] at hi
      rw [if_neg (by omega), if_neg (by omega), if_neg (by omega), if_neg (by omega)]
      exact hL.2 i jt hi
    · have hi2 := (List.getElem?_eq_some_iff.mp hi).1
      rw [List.length_append] at hi2
      have e : i = L.length := by simp at hi2; omega
      subst e
      rw [List.getElem?_append_right (Nat.le_refl _), Nat.sub_self] at hi
      have ej : jt = it := by simpa using hi.symm
      subst ej
      rw [if_pos (by omega), if_pos (by omega), if_pos (by omega), if_pos (by omega), show 4 * L.length - 4 * L.length = 0 by omega, show 4 * L.length + 1 - 4 * L.length = 1 by omega, show 4 * L.length + 2 - 4 * L.length = 2 by omega, show 4 * L.length + 3 - 4 * L.length = 3 by omega]
      exact ⟨rfl, rfl, rfl, rfl⟩
  · rw [gi_si, if_neg h2, g, if_neg (by omega)]
theorem r_laysNews {N : Nat} {τ : qMem} {κ : Nat → Int32} (hN : 200000 ≤ N) (hκ : τ.1 2 = κ) (hw : KW κ) : Ho (fX12_laysNews N τ) (fun t => newsOK t.1 κ ∧ ∀ k j, k ≠ 6 → ¬ (k = 0 ∧ j = 10) → gi t k j = gi τ k j) := by
  have hw0 := hw
  obtain ⟨kb, kt, kh, ke, _⟩ := hw
  have hb := kh.1
  have hb2 := ke.1
  unfold fX12_laysNews
  rw [show (fX12_laysNews_l7 N N 0) = fX12_laysNews_l7 N N (zI 0) from rfl]
  refine lp_for (S := qMem) (R := qMem) (fun n i s => fX12_laysNews_l7 N n (zI i) s) (fun i s => 0 ≤ i ∧ newsAt s.1 κ (newsK κ false i.toNat) ∧ ∀ k j, k ≠ 6 → ¬ (k = 0 ∧ j = 10) → gi s k j = gi τ k j) _ (kI κ 300) ?_ ?_ N 0 _ (by omega) (by omega) ?_
  · intro n s ⟨_, h1, h2⟩
    show Ho (fX12_laysNews_s7 N _ _ _) _
    have eκ : s.1 2 = κ := by rw [← hκ]; exact funext fun j => h2 2 j (by omega) (by omega)
    have g300 : gi s 2 (300 : Int32).toNatClampNeg = zI (kI κ 300) := by rw [← eκ]; exact (zI_of _).symm
    have c300 : (ck (300 : Int32) 1112 = true) = True := by decide
    unfold fX12_laysNews_s7
    simp only [c300, if_true, g300]
    simp (disch := omega) only [zI_le]
    rw [if_pos (by omega), show (0 : Int32) = zI 0 from rfl]
    refine lp_for (S := qMem) (R := qMem) (fun n i s => fX12_laysNews_l53 N n (zI i) s) (fun i s => 0 ≤ i ∧ newsAt s.1 κ (newsK κ false (kI κ 300).toNat ++ newsK κ true i.toNat) ∧ ∀ k j, k ≠ 6 → ¬ (k = 0 ∧ j = 10) → gi s k j = gi τ k j) _ (kI κ 301) ?_ ?_ N 0 s (by omega) (by omega) ?_
    · intro n2 s2 ⟨_, g1, g2⟩
      show Ho (fX12_laysNews_s53 N _ _ _) _
      have eκ : s2.1 2 = κ := by rw [← hκ]; exact funext fun j => g2 2 j (by omega) (by omega)
      have g301 : gi s2 2 (301 : Int32).toNatClampNeg = zI (kI κ 301) := by rw [← eκ]; exact (zI_of _).symm
      have c301 : (ck (301 : Int32) 1112 = true) = True := by decide
      unfold fX12_laysNews_s53
      simp only [c301, if_true, g301]
      simp (disch := omega) only [zI_le]
      rw [if_pos (by omega)]
      exact Ho_some ⟨g1, g2⟩
    · intro n2 i s2 hi ⟨i0, g1, g2⟩ hc
      show Ho (fX12_laysNews_s53 N _ _ _) _
      obtain ⟨k, rfl⟩ : ∃ k : Nat, i = k := ⟨i.toNat, by omega⟩
      have eκ : s2.1 2 = κ := by rw [← hκ]; exact funext fun j => g2 2 j (by omega) (by omega)
      have g301 : gi s2 2 (301 : Int32).toNatClampNeg = zI (kI κ 301) := by rw [← eκ]; exact (zI_of _).symm
      have c301 : (ck (301 : Int32) 1112 = true) = True := by decide
      have hv : validI κ (true, k) := Or.inr ⟨rfl, by simp only; omega⟩
      have hkn := r_isKnown (τ := s2) (e := true) (k := k) hN (by rw [eκ]; exact hw0) (by rw [eκ]; exact hv)
      rw [eκ] at hkn
      have e0 := r_echoOf (τ := s2) (h := k) (f := 0) (by omega) (by omega) (by omega) (by omega)
      have e1 := r_echoOf (τ := s2) (h := k) (f := 1) (by omega) (by omega) (by omega) (by omega)
      rw [eκ] at e0 e1
      unfold fX12_laysNews_s53 fX12_isKnownEcho fX12_laysNews_b91
      have cc : (zI (kI κ 301) ≤ zI (k : Int)) = False := by rw [zI_le (by omega) (by omega) (by omega) (by omega)]; exact eq_false (by omega)
      have cc3 : zI (k : Int) + 1 = zI ((k : Int) + 1) := zI_add _ 1
      simp only [c301, if_true, g301, cc, if_false, cc3]
      have len := newsK_len κ false (kI κ 300).toNat
      have len2 := newsK_len κ true k
      rw [show (fX12_isKnown N 1 (zI (k : Int)) s2) = some (bI (knownB κ (true, k))) from hkn, Option.bind_some, if_pos (bI_or _), Option.bind_some, if_bI]
      have fin : ∀ s3 : qMem, newsAt s3.1 κ (newsK κ false (kI κ 300).toNat ++ (newsK κ true k ++ (if knownB κ (true, k) = true then [] else [(true, k)]))) → (∀ a j, a ≠ 6 → ¬ (a = 0 ∧ j = 10) → gi s3 a j = gi τ a j) → Ho (fX12_laysNews_l53 N n2 (zI ((k : Int) + 1)) s3) (fun t => newsOK t.1 κ ∧ ∀ k j, k ≠ 6 → ¬ (k = 0 ∧ j = 10) → gi t k j = gi τ k j) := by
        intro s3 q1 q2
        refine hc s3 ⟨by omega, ?_, q2⟩
        rw [show ((k : Int) + 1).toNat = k + 1 by omega, newsK_succ]
        exact q1
      rw [show ((k : Int)).toNat = k by omega] at g1
      by_cases q : knownB κ (true, k) = true
      · rw [if_pos q]
        refine fin s2 ?_ g2
        rw [if_pos q, List.append_nil]
        exact g1
      · rw [if_neg q]
        have ee0 : fX12_echoOf (zI (k : Int)) 0 s2 = some (zI (itF κ (true, k) 0)) := e0
        have ee1 : fX12_echoOf (zI (k : Int)) 1 s2 = some (zI (itF κ (true, k) 1)) := e1
        rw [ee0, Option.bind_some, ee1, Option.bind_some]
        refine Ho_bind (r_laysNew (it := (true, k)) g1 (by rw [List.length_append]; omega)) fun s3 ⟨w1, w2⟩ => ?_
        refine fin s3 ?_ (fun a j q1 q2 => (w2 a j q1 q2).trans (g2 a j q1 q2))
        rw [if_neg q, ← List.append_assoc]
        exact w1
    · refine ⟨by omega, ?_, h2⟩
      have : newsK κ true (Int.toNat 0) = [] := rfl
      rw [this, List.append_nil]
      exact h1
  · intro n i s hi ⟨i0, h1, h2⟩ hc
    show Ho (fX12_laysNews_s7 N _ _ _) _
    obtain ⟨k, rfl⟩ : ∃ k : Nat, i = k := ⟨i.toNat, by omega⟩
    have eκ : s.1 2 = κ := by rw [← hκ]; exact funext fun j => h2 2 j (by omega) (by omega)
    have g300 : gi s 2 (300 : Int32).toNatClampNeg = zI (kI κ 300) := by rw [← eκ]; exact (zI_of _).symm
    have c300 : (ck (300 : Int32) 1112 = true) = True := by decide
    have hv : validI κ (false, k) := Or.inl ⟨rfl, by simp only; omega⟩
    have hkn := r_isKnown (τ := s) (e := false) (k := k) hN (by rw [eκ]; exact hw0) (by rw [eκ]; exact hv)
    rw [eκ] at hkn
    have e0 := r_heardOf (τ := s) (h := k) (f := 0) (by omega) (by omega) (by omega) (by omega)
    have e1 := r_heardOf (τ := s) (h := k) (f := 1) (by omega) (by omega) (by omega) (by omega)
    rw [eκ] at e0 e1
    unfold fX12_laysNews_s7 fX12_isKnownHeard fX12_laysNews_b45
    have cc : (zI (kI κ 300) ≤ zI (k : Int)) = False := by rw [zI_le (by omega) (by omega) (by omega) (by omega)]; exact eq_false (by omega)
    have cc3 : zI (k : Int) + 1 = zI ((k : Int) + 1) := zI_add _ 1
    simp only [c300, if_true, g300, cc, if_false, cc3]
    have len2 := newsK_len κ false k
    rw [show (fX12_isKnown N 0 (zI (k : Int)) s) = some (bI (knownB κ (false, k))) from hkn, Option.bind_some, if_pos (bI_or _), Option.bind_some, if_bI]
    have fin : ∀ s3 : qMem, newsAt s3.1 κ (newsK κ false k ++ (if knownB κ (false, k) = true then [] else [(false, k)])) → (∀ a j, a ≠ 6 → ¬ (a = 0 ∧ j = 10) → gi s3 a j = gi τ a j) → Ho (fX12_laysNews_l7 N n (zI ((k : Int) + 1)) s3) (fun t => newsOK t.1 κ ∧ ∀ k j, k ≠ 6 → ¬ (k = 0 ∧ j = 10) → gi t k j = gi τ k j) := by
      intro s3 q1 q2
      refine hc s3 ⟨by omega, ?_, q2⟩
      rw [show ((k : Int) + 1).toNat = k + 1 by omega, newsK_succ]
      exact q1
    rw [show ((k : Int)).toNat = k by omega] at h1
    by_cases q : knownB κ (false, k) = true
    · rw [if_pos q]
      refine fin s ?_ h2
      rw [if_pos q, List.append_nil]
      exact h1
    · rw [if_neg q]
      have ee0 : fX12_heardOf (zI (k : Int)) 0 s = some (zI (itF κ (false, k) 0)) := e0
      have ee1 : fX12_heardOf (zI (k : Int)) 1 s = some (zI (itF κ (false, k) 1)) := e1
      rw [ee0, Option.bind_some, ee1, Option.bind_some]
      refine Ho_bind (r_laysNew (it := (false, k)) h1 (by omega)) fun s3 ⟨w1, w2⟩ => ?_
      refine fin s3 ?_ (fun a j q1 q2 => (w2 a j q1 q2).trans (h2 a j q1 q2))
      rw [if_neg q]
      exact w1
  · refine ⟨by omega, ⟨?_, fun i it hi => ?_⟩, fun k j h1 h2 => ?_⟩
    · show gi _ 0 10 = _
      rw [gi_si, if_pos ⟨rfl, rfl⟩]
      rfl
    · have : newsK κ false (Int.toNat 0) = [] := rfl
      rw [this] at hi
      cases hi
    · rw [gi_si, if_neg h2]
/-! the class's way -/
def wayF (κ : Nat → Int32) (e : Bool) (v x y : Int) : Bool := if e then farB v (kI κ 45) x y else towB v (kI κ 44) x y
theorem e_answered {N k1 n1 : Nat} {σ : qMem} {κ : Nat → Int32} {e : Bool} {b bell v n : Int} (px py pw pf pt : Int → Int) (hN : 200000 ≤ N) (hT : KT κ) (hB : KB κ) (hk1 : k1 ≠ 62) (hn : gi σ k1 3 = zI n) (n0 : 0 ≤ n) (n1' : n ≤ 8)
    (hat : ∀ ρ : qMem, (∀ k j, k ≠ 62 → gi ρ k j = gi σ k j) → ∀ i : Int, 0 ≤ i → i < n → fX8_at k1 n1 (zI i) (zI 0) ρ = some (zI (px i)) ∧ fX8_at k1 n1 (zI i) (zI 1) ρ = some (zI (py i)) ∧ fX8_at k1 n1 (zI i) (zI 2) ρ = some (zI (pw i)) ∧ fX8_at k1 n1 (zI i) (zI 3) ρ = some (zI (pf i)) ∧ fX8_at k1 n1 (zI i) (zI 4) ρ = some (zI (pt i)))
    (hr : ∀ i : Int, 0 ≤ i → i < n → (0 ≤ px i ∧ px i ≤ 31) ∧ (0 ≤ py i ∧ py i ≤ 31) ∧ (0 ≤ pw i ∧ pw i ≤ 9) ∧ (0 ≤ pf i ∧ pf i ≤ 23) ∧ (0 ≤ pt i ∧ pt i ≤ 23))
    (b0 : 0 ≤ b) (b1 : b ≤ 1) (l0 : 0 ≤ bell) (l1 : bell ≤ 23) (v0 : 0 ≤ v) (v1 : v ≤ 99) (v2 : e = false → v ≤ 79)
    (hE : gi σ (3 + 6 * b.toNat + 3) bell.toNat = zI (pos κ b bell 0)) (hNo : gi σ (3 + 6 * b.toNat + 4) bell.toNat = zI (pos κ b bell 1)) (h44 : gi σ 18 0 = zI (kI κ 44)) (h45 : gi σ 18 1 = zI (kI κ 45)) :
    Ho (fX3_isAnswered N k1 n1 (bI e) (zI b) (zI bell) (zI v) σ) (fun a => (∀ k j, k ≠ 62 → gi a.2 k j = gi σ k j) ∧ ∃ A : Bool, a.1 = bI A ∧ (A = true ↔ ∃ i : Int, 0 ≤ i ∧ i < n ∧ (pf i ≤ bell ∧ bell ≤ pt i) ∧ ∃ x y : Int, px i - pw i ≤ x ∧ x ≤ px i + pw i ∧ py i - pw i ≤ y ∧ y ≤ py i + pw i ∧ wayF κ e v (x - pos κ b bell 0) (y - pos κ b bell 1) = true)) := by
  have p0 := pos_rng (w := 0) hB b0 b1 (Or.inl rfl) l1
  have p1 := pos_rng (w := 1) hB b0 b1 (Or.inr rfl) l1
  unfold fX3_isAnswered
  rw [e_isBoat (by omega) (by omega), Option.bind_some, decide_eq_true ⟨b0, b1⟩, bI_t, if_neg (by decide), e_isBell (by omega) (by omega), Option.bind_some, decide_eq_true ⟨l0, l1⟩, bI_t, if_neg (by decide), show (0 : Int32) = zI 0 from rfl]
  generalize hPE : pos κ b bell 0 = E at *
  generalize hPN : pos κ b bell 1 = No at *
  refine lp_for (S := qMem) (R := Int32 × qMem) (fun m i s => fX3_isAnswered_l20 N k1 n1 m (bI e) (zI b) (zI bell) (zI v) (zI i) s) (fun i s => 0 ≤ i ∧ (∀ k j, k ≠ 62 → gi s k j = gi σ k j) ∧ ¬ ∃ i' : Int, 0 ≤ i' ∧ i' < i ∧ (pf i' ≤ bell ∧ bell ≤ pt i') ∧ ∃ x y : Int, px i' - pw i' ≤ x ∧ x ≤ px i' + pw i' ∧ py i' - pw i' ≤ y ∧ y ≤ py i' + pw i' ∧ wayF κ e v (x - E) (y - No) = true) _ n ?_ ?_ N 0 σ (by omega) (by omega) ⟨by omega, fun _ _ _ => rfl, fun ⟨i, h1, h2, _⟩ => by omega⟩
  · intro m s ⟨_, h1, h2⟩
    show Ho (fX3_isAnswered_s20 N k1 n1 _ _ _ _ _ _ _) _
    unfold fX3_isAnswered_s20
    rw [h1 _ _ hk1, hn]
    simp (disch := omega) only [zI_le]
    rw [if_pos (by omega)]
    refine Ho_some ⟨h1, false, rfl, ?_⟩
    constructor
    · intro h; cases h
    · intro h; exact absurd h h2
  · intro m i s hi ⟨i0, h1, h2⟩ hc
    show Ho (fX3_isAnswered_s20 N k1 n1 _ _ _ _ _ _ _) _
    obtain ⟨ax, ay, aw, af, at'⟩ := hat s h1 i i0 hi
    obtain ⟨rx, ry, rw', rf, rt⟩ := hr i i0 hi
    unfold fX3_isAnswered_s20
    have cb : (ck (zI b) 2 = true) = True := zI_ckT b0 (by omega) (by omega)
    have cl : (ck (zI bell) 24 = true) = True := zI_ckT l0 (by omega) (by omega)
    have zb : (zI b).toNatClampNeg = b.toNat := zI_clamp b0 (by omega)
    have zl : (zI bell).toNatClampNeg = bell.toNat := zI_clamp l0 (by omega)
    have gE : gi s (3 + 6 * b.toNat + 3) bell.toNat = zI E := by rw [h1 _ _ (by omega)]; exact hE
    have gN : gi s (3 + 6 * b.toNat + 4) bell.toNat = zI No := by rw [h1 _ _ (by omega)]; exact hNo
    have cn : (zI n ≤ zI i) = False := by rw [zI_le (by omega) (by omega) (by omega) (by omega)]; exact eq_false (by omega)
    rw [h1 _ _ hk1, hn]
    simp only [cn, if_false]
    rw [show fX8_at k1 n1 (zI i) 2 s = _ from aw, Option.bind_some, show fX8_at k1 n1 (zI i) 1 s = _ from ay, Option.bind_some]
    simp only [cb, cl, if_true, zb, zl, gE, gN, nmI]
    rw [show fX8_at k1 n1 (zI i) 0 s = _ from ax, Option.bind_some, show fX8_at k1 n1 (zI i) 3 s = _ from af, Option.bind_some, show fX8_at k1 n1 (zI i) 4 s = _ from at', Option.bind_some, e_isIn (by omega) (by omega) (by omega) (by omega) (by omega) (by omega), Option.bind_some, zI_sub, zI_sub, zI_sub, zI_sub]
    generalize hX : px i = cx at *
    generalize hY : py i = cy at *
    generalize hW : pw i = w at *
    by_cases qt : pf i ≤ bell ∧ bell ≤ pt i
    · rw [decide_eq_true qt, bI_t]
      refine lp_for (S := qMem) (R := Int32 × qMem) (fun m' x s => fX3_isAnswered_l119 N k1 n1 (fX3_isAnswered_l20 N k1 n1 m) m' (bI e) (zI b) (zI bell) (zI v) (zI i) (zI w) (zI (cy - w - No)) (zI (cx - E)) 1 (zI x) s) (fun x s => cx - E - w ≤ x ∧ (∀ k j, k ≠ 62 → gi s k j = gi σ k j) ∧ ¬ ∃ x' y : Int, cx - E - w ≤ x' ∧ x' < x ∧ cy - w ≤ y ∧ y ≤ cy + w ∧ wayF κ e v x' (y - No) = true) _ (cx - E + w + 1) ?_ ?_ N _ s (by omega) (by omega) ⟨by omega, h1, fun ⟨x, y, g1, g2, _⟩ => by omega⟩
      · intro m' s' ⟨_, g1, g2⟩
        show Ho (fX3_isAnswered_s119 N k1 n1 _ _ _ _ _ _ _ _ _ _ _ _ _) _
        unfold fX3_isAnswered_s119 fX3_isAnswered_b210
        have c1 : (zI (cx - E) + zI w < zI (cx - E + w + 1)) = True := by rw [zI_add, zI_lt (by omega) (by omega) (by omega) (by omega)]; exact eq_true (by omega)
        have c3 : zI i + 1 = zI (i + 1) := zI_add i 1
        simp only [c1, if_true, c3]
        rw [if_neg (by decide)]
        refine hc s' ⟨by omega, g1, ?_⟩
        rintro ⟨i', a1, a2, a3, x, y, a4, a5, a6, a7, a8⟩
        by_cases q : i' = i
        · subst q
          rw [hX, hW] at a4 a5
          rw [hY, hW] at a6 a7
          exact g2 ⟨x - E, y, by omega, by omega, a6, a7, a8⟩
        · exact h2 ⟨i', a1, by omega, a3, x, y, a4, a5, a6, a7, a8⟩
      · intro m' x s' hx ⟨x0, g1, g2⟩ hc2
        show Ho (fX3_isAnswered_s119 N k1 n1 _ _ _ _ _ _ _ _ _ _ _ _ _) _
        have key : ∀ s2 : qMem, (∀ k j, k ≠ 62 → gi s2 k j = gi σ k j) → BandOK s2 (wayF κ e v x) → Ho (fX3_isAnswered_b181 N k1 n1 (fX3_isAnswered_l20 N k1 n1 m) (fX3_isAnswered_l119 N k1 n1 (fX3_isAnswered_l20 N k1 n1 m) m') (bI e) (zI b) (zI bell) (zI v) (zI i) (zI w) (zI (cy - w - No)) (zI (cx - E)) 1 (zI x) s2) (fun a => (∀ k j, k ≠ 62 → gi a.2 k j = gi σ k j) ∧ ∃ A : Bool, a.1 = bI A ∧ (A = true ↔ ∃ i : Int, 0 ≤ i ∧ i < n ∧ (pf i ≤ bell ∧ bell ≤ pt i) ∧ ∃ x y : Int, px i - pw i ≤ x ∧ x ≤ px i + pw i ∧ py i - pw i ≤ y ∧ y ≤ py i + pw i ∧ wayF κ e v (x - E) (y - No) = true)) := by
          intro s2 u1 u2
          unfold fX3_isAnswered_b181
          rw [u2 _ (by omega) (by omega), Option.bind_some, show (0 : Int32) = zI 0 from rfl, show (2 : Int32) * zI w = zI (2 * w) from zI_mul 2 w, e_bits (by omega) (by omega) (by omega) (by omega), Option.bind_some, wd_and, show zI x + 1 = zI (x + 1) from zI_add x 1]
          by_cases q : ∃ y : Int, cy - w ≤ y ∧ y ≤ cy + w ∧ wayF κ e v x (y - No) = true
          · obtain ⟨y, y0, y1, y2⟩ := q
            rw [if_neg]
            · refine Ho_some ⟨u1, true, rfl, ?_⟩
              constructor
              · intro _
                refine ⟨i, i0, hi, qt, x + E, y, ?_, ?_, ?_, ?_, ?_⟩
                · rw [hX, hW]; omega
                · rw [hX, hW]; omega
                · rw [hY, hW]; omega
                · rw [hY, hW]; omega
                · rw [show x + E - E = x by omega]; exact y2
              · intro _; rfl
            · intro z
              have := (wd_eq0 _).mp z (y - (cy - w)).toNat (by omega)
              rw [show cy - w - No + (((y - (cy - w)).toNat : Nat) : Int) = y - No by omega, y2, decide_eq_true (show (0 : Int) ≤ (((y - (cy - w)).toNat : Nat) : Int) ∧ (((y - (cy - w)).toNat : Nat) : Int) ≤ 2 * w by omega)] at this
              cases this
          · rw [if_pos]
            · refine hc2 s2 ⟨by omega, u1, ?_⟩
              rintro ⟨x', y, a1, a2, a3, a4, a5⟩
              by_cases qx : x' = x
              · subst qx; exact q ⟨y, a3, a4, a5⟩
              · exact g2 ⟨x', y, a1, by omega, a3, a4, a5⟩
            · refine (wd_eq0 _).mpr fun j hj => ?_
              cases hz : wayF κ e v x (cy - w - No + (j : Int))
              · rfl
              · rw [Bool.true_and]
                refine decide_eq_false fun z => q ⟨cy - w + j, by omega, by omega, ?_⟩
                rw [show cy - w + (j : Int) - No = cy - w - No + j by omega]
                exact hz
        unfold fX3_isAnswered_s119
        have c1 : (zI (cx - E) + zI w < zI x) = False := by rw [zI_add, zI_lt (by omega) (by omega) (by omega) (by omega)]; exact eq_false (by omega)
        simp only [c1, if_false]
        rw [if_neg (by decide)]
        have z0 : (0 : Int32).toNatClampNeg = 0 := rfl
        have z1 : (1 : Int32).toNatClampNeg = 1 := rfl
        have c0 : (ck (0 : Int32) 6 = true) = True := by decide
        have c6 : (ck (1 : Int32) 6 = true) = True := by decide
        simp only [c0, c6, if_true, z0, z1]
        rw [g1 18 0 (by omega), g1 18 1 (by omega), h44, h45]
        have frb : ∀ s2 : qMem, Fr (fun k => k = 62) s' s2 → ∀ k j, k ≠ 62 → gi s2 k j = gi σ k j := fun s2 hf k j hk => (Fr_gi hf hk j).trans (g1 k j hk)
        cases e
        · rw [bI_f, if_pos rfl]
          refine Ho_bind (e_arc s' v0 (v2 rfl) hT.1.1 hT.1.2 (by omega) (by omega)) fun s2 ⟨u1, u2⟩ => ?_
          exact key s2 (frb s2 u1) u2
        · rw [bI_t, if_neg (by decide)]
          refine Ho_bind (e_circle hN s' v0 v1 hT.2.1.1 hT.2.1.2 (by omega) (by omega)) fun s2 ⟨u1, u2⟩ => ?_
          exact key s2 (frb s2 u1) u2
    · rw [decide_eq_false qt, bI_f]
      obtain ⟨m', rfl⟩ : ∃ m', N = m' + 1 := ⟨N - 1, by omega⟩
      show Ho (fX3_isAnswered_s119 (m' + 1) k1 n1 _ _ _ _ _ _ _ _ _ _ _ _ _) _
      unfold fX3_isAnswered_s119 fX3_isAnswered_b210
      rw [if_pos rfl, show zI i + 1 = zI (i + 1) from zI_add i 1]
      refine hc s ⟨by omega, h1, ?_⟩
      rintro ⟨i', a1, a2, a3, rest⟩
      by_cases q : i' = i
      · subst q; exact qt a3
      · exact h2 ⟨i', a1, by omega, a3, rest⟩
