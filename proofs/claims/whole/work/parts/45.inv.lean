/-! what holds on, when other cells change -/
theorem bookS_c {m m' : Nat → Nat → Int32} {B : Nat} (h : ∀ k j, B + 2 ≤ k → k ≤ B + 36 → j ≤ 1 → m' k j = m k j) : bookS m' B = bookS m B := by
  unfold bookS rowS
  simp (disch := omega) only [h]
theorem boatT_c {m m' : Nat → Nat → Int32} {o : Nat} {κ : Nat → Int32} {b : Nat} (h : ∀ k j, o ≤ k → k ≤ o + 5 → m' k j = m k j) : boatT m' o κ b = boatT m o κ b := by
  unfold boatT rowE
  simp (disch := omega) only [h]
theorem bookK_c {m m' : Nat → Nat → Int32} {B : Nat} {κ : Nat → Int32} (h : ∀ k j, B ≤ k → k ≤ B + 38 → k ≠ B + 16 → k ≠ B + 34 → m' k j = m k j) : bookK m' B κ = bookK m B κ := by
  unfold bookK
  rw [boatT_c (m := m) (m' := m') (o := B + 2) (fun k j h1 h2 => h k j (by omega) (by omega) (by omega) (by omega)), boatT_c (m := m) (m' := m') (o := B + 8) (fun k j h1 h2 => h k j (by omega) (by omega) (by omega) (by omega))]
  unfold rowE
  simp (disch := omega) only [h]
theorem lawE_c {m m' : Nat → Nat → Int32} {B : Nat} (h : ∀ k j, B + 34 ≤ k → k ≤ B + 38 → (k = B + 34 → j = 5) → m' k j = m k j) : lawE m B m' B := by
  unfold lawE
  refine ⟨h _ _ (by omega) (by omega) (by omega), h _ _ (by omega) (by omega) (by omega), fun j _ => h _ _ (by omega) (by omega) (by omega), fun j _ => h _ _ (by omega) (by omega) (by omega), fun j _ => h _ _ (by omega) (by omega) (by omega)⟩
theorem CC_c {m m' : Nat → Nat → Int32} {κ : Nat → Int32} (h : ∀ k j, ((k = 44 ∧ 12 ≤ j ∧ j ≤ 17) ∨ (46 ≤ k ∧ k ≤ 56) ∨ k = 61 ∨ (k = 68 ∧ 6 ≤ j ∧ j ≤ 8) ∨ k = 72) → m' k j = m k j) : CC m κ → CC m' κ := by
  intro hc
  have hs : sorts m κ → sorts m' κ := by
    intro ⟨a, b, c⟩
    refine ⟨fun k hk => ?_, fun k hk => ?_, fun x hx => ?_⟩
    · rw [h 44 12 (by omega)]; exact a k hk
    · rw [h 44 13 (by omega)]; exact b k hk
    · refine ⟨?_, fun i it hit => ?_⟩
      · rw [h (46 + 2 * x) 3 (by omega)]; exact (c x hx).1
      · rw [h (47 + 2 * x) _ (by omega), h (47 + 2 * x) _ (by omega), h (47 + 2 * x) _ (by omega)]; exact (c x hx).2 i it hit
  have ht : tunes m κ → tunes m' κ := by
    intro a b hb
    refine ⟨fun j hj => ?_, fun j hj => ?_⟩
    · rw [h (51 + 3 * b + 1) _ (by omega)]; exact (a b hb).1 j hj
    · rw [h (51 + 3 * b + 2) _ (by omega)]; exact (a b hb).2 j hj
  have hp : plots m κ → plots m' κ := by
    intro ⟨a, b⟩
    refine ⟨fun l hl => ?_, ?_⟩
    · rw [h 61 _ (by omega)]; exact a l hl
    · rw [h 44 14 (by omega)]; exact b
  have hr : reckons m κ → reckons m' κ := by
    intro ⟨a, f, fr, b, c, d⟩
    refine ⟨fun k hk => ?_, f, fr, ?_, ?_, d⟩
    · rw [h 72 _ (by omega)]; exact a k hk
    · rw [h 68 6 (by omega)]; exact b
    · rw [h 68 7 (by omega)]; exact c
  obtain ⟨a, b, c, d, e, f⟩ := hc
  refine ⟨?_, ?_, fun z => hs (c ?_), fun z => ht (d ?_), fun z => hp (e ?_), fun z => hr (f ?_)⟩
  · unfold rowS; rw [h 46 0 (by omega), h 46 1 (by omega)]; exact a
  · unfold rowS; rw [h 48 0 (by omega), h 48 1 (by omega)]; exact b
  · rw [h 44 15 (by omega)] at z; exact z
  · rw [h 44 16 (by omega)] at z; exact z
  · rw [h 44 17 (by omega)] at z; exact z
  · rw [h 68 8 (by omega)] at z; exact z
theorem newsOK_c {t t' : Nat → Nat → Int32} {κ : Nat → Int32} (h : ∀ k j, ((k = 0 ∧ j = 10) ∨ k = 6) → t' k j = t k j) : newsOK t κ → newsOK t' κ := by
  intro ⟨a, b⟩
  refine ⟨?_, fun i it hit => ?_⟩
  · rw [h 0 10 (by omega)]; exact a
  · rw [h 6 _ (by omega), h 6 _ (by omega), h 6 _ (by omega), h 6 _ (by omega)]; exact b i it hit
theorem carrOK_c {t t' : Nat → Nat → Int32} {κ : Nat → Int32} (h : ∀ j, t' 5 j = t 5 j) : carrOK t κ → carrOK t' κ := by
  intro a d e r h1 h2 h3 h4 h5 h6
  rw [h]; exact a d e r h1 h2 h3 h4 h5 h6
theorem fitsOK_c {t t' : Nat → Nat → Int32} {κ : Nat → Int32} (h : ∀ k j, ((k = 0 ∧ j = 12) ∨ k = 7) → t' k j = t k j) : fitsOK t κ → fitsOK t' κ := by
  intro ⟨a, b⟩
  refine ⟨fun r hr => ?_, ?_⟩
  · rw [h 7 _ (by omega)]; exact a r hr
  · rw [h 0 12 (by omega)]; exact b
theorem missOK_c {t t' : Nat → Nat → Int32} {κ : Nat → Int32} (h : ∀ j, t' 8 j = t 8 j) : missOK t κ → missOK t' κ := by
  intro a r hr
  rw [h]; exact a r hr
theorem RC_c {t t' : Nat → Nat → Int32} {κ : Nat → Int32} (h : ∀ k j, ((k = 0 ∧ (j = 2 ∨ j = 7 ∨ j = 10 ∨ j = 12 ∨ j = 13 ∨ j = 15)) ∨ (5 ≤ k ∧ k ≤ 8)) → t' k j = t k j) : RC t κ → RC t' κ := by
  intro ⟨a, b, c, d, e, f⟩
  have e2 := h 0 2 (by omega)
  have e7 := h 0 7 (by omega)
  have e13 := h 0 13 (by omega)
  have e15 := h 0 15 (by omega)
  unfold RC
  rw [e2, e7, e13, e15]
  exact ⟨a, b, c, fun z => carrOK_c (fun j => h 5 j (by omega)) (d z), fun z => fitsOK_c (fun k j hh => h k j (by omega)) (e z), fun z => ⟨missOK_c (fun j => h 8 j (by omega)) (f z).1, newsOK_c (fun k j hh => h k j (by omega)) (f z).2⟩⟩
/-- when the version goes on, nothing that was kept is asked any more -/
theorem RC_next {t t' : Nat → Nat → Int32} {κ κ' : Nat → Int32} {c : Nat} (hc : c ≤ 600) (hv : 0 ≤ (t 0 2).toInt ∧ (t 0 2).toInt ≤ c) (h2 : t' 0 2 = t 0 2 + 1) (h7 : t' 0 7 = t 0 7) (h13 : t' 0 13 = t 0 13) (h15 : t' 0 15 = t 0 15) : RC t κ → RC t' κ' ∧ (0 ≤ (t' 0 2).toInt ∧ (t' 0 2).toInt ≤ (c + 1 : Nat)) := by
  intro ⟨a, b, c', _, _, _⟩
  have e : (t' 0 2).toInt = (t 0 2).toInt + 1 := by
    rw [h2, ← zI_of (t 0 2), show (1 : Int32) = zI 1 from rfl, zI_add, zI_toInt (by omega) (by omega), zI_of]
  have ne : ∀ x : Int32, x.toInt ≤ (t 0 2).toInt → ¬ x = t' 0 2 := by
    intro x hx q
    rw [q, e] at hx
    omega
  refine ⟨⟨?_, ?_, ?_, fun z => absurd z ?_, fun z => absurd z ?_, fun z => absurd z ?_⟩, by omega⟩
  · rw [h7, e]; omega
  · rw [h13, e]; omega
  · rw [h15, e]; omega
  · rw [h7]; exact ne _ a.2
  · rw [h13]; exact ne _ b.2
  · rw [h15]; exact ne _ c'.2
theorem CC_forgot {m : Nat → Nat → Int32} {κ : Nat → Int32} (h1 : rowS m 46 3 36) (h2 : rowS m 48 3 36) (h3 : m 44 15 = 0) (h4 : m 44 16 = 0) (h5 : m 44 17 = 0) (h6 : m 68 8 = 0) : CC m κ :=
  ⟨h1, h2, fun z => absurd h3 z, fun z => absurd h4 z, fun z => absurd h5 z, fun z => absurd h6 z⟩
theorem eta2 {α β : Type} (o : Option (α × β)) : (o.bind fun y => some (y.1, y.2)) = o := by cases o <;> rfl
theorem eta1 {α : Type} (o : Option α) : (o.bind fun y => some y) = o := by cases o <;> rfl
theorem row_si {σ : qMem} {k j a : Nat} {x : Int32} (h : a ≠ k) : (si σ k j x).1 a = σ.1 a := by simp [si, sr, h]
theorem row_ext {σ τ : qMem} {k : Nat} (h : ∀ j, gi τ k j = gi σ k j) : τ.1 k = σ.1 k := funext h
section EN
variable {LW : LWt} {c : Nat} {σ τ σ1 τ1 : qMem}
/-- a change of the book that is in use, that makes forget -/
theorem both_changed {a : Int32} (hLW : LWc LW) (hc : c ≤ 600) (h : Inv LW c σ τ) (hσ : ∀ k j, ¬ (2 ≤ k ∧ k ≤ 41) → gi σ1 k j = gi σ k j) (hτ : ∀ k j, k ≠ 2 → gi τ1 k j = gi τ k j)
    (hs : bookS σ1.1 1) (hb : bookK σ1.1 1 (τ1.1 2)) (hk : KW (τ1.1 2)) (hl : LW σ1.1 1 (τ1.1 2)) : Both LW c (fX11_changed a σ1) (fX12_good a τ1) := by
  obtain ⟨v, s1, s2, s3, s4, b1, k1, l1, im, tp, ms, rf, cc, rc, wo⟩ := h
  refine ⟨a, _, _, rfl, rfl, ?_⟩
  generalize hσ2 : si (si (si (si (si σ1 44 15 0) 44 16 0) 44 17 0) 68 8 0) 0 13 0 = σ2
  generalize hτ2 : si (si τ1 0 0 0) 0 2 (gi (si τ1 0 0 0) 0 2 + 1) = τ2
  have gσ : ∀ k j, gi σ2 k j = if k = 0 ∧ j = 13 then 0 else if k = 68 ∧ j = 8 then 0 else if k = 44 ∧ j = 17 then 0 else if k = 44 ∧ j = 16 then 0 else if k = 44 ∧ j = 15 then 0 else gi σ1 k j := by
    intro k j; rw [← hσ2]; simp only [gi_si]
  have gτ : ∀ k j, gi τ2 k j = if k = 0 ∧ j = 2 then gi τ1 0 2 + 1 else if k = 0 ∧ j = 0 then 0 else gi τ1 k j := by
    intro k j; rw [← hτ2]; simp only [gi_si]; simp
  have oσ : ∀ k j, ¬ (k = 0 ∧ j = 13) → ¬ (k = 68 ∧ j = 8) → ¬ (k = 44 ∧ 15 ≤ j ∧ j ≤ 17) → ¬ (2 ≤ k ∧ k ≤ 41) → gi σ2 k j = gi σ k j := by
    intro k j a1 a2 a3 a4
    rw [gσ, if_neg a1, if_neg a2, if_neg (by omega), if_neg (by omega), if_neg (by omega), hσ k j a4]
  have oσ1 : ∀ k j, k ≠ 0 → k ≠ 68 → k ≠ 44 → gi σ2 k j = gi σ1 k j := by
    intro k j a1 a2 a3
    rw [gσ, if_neg (by omega), if_neg (by omega), if_neg (by omega), if_neg (by omega), if_neg (by omega)]
  have oτ : ∀ k j, ¬ (k = 0 ∧ (j = 0 ∨ j = 2)) → k ≠ 2 → gi τ2 k j = gi τ k j := by
    intro k j a1 a2
    rw [gτ, if_neg (by omega), if_neg (by omega), hτ k j a2]
  have eκ : τ2.1 2 = τ1.1 2 := by
    funext j
    show gi τ2 2 j = gi τ1 2 j
    rw [gτ, if_neg (by omega), if_neg (by omega)]
  have e3 : ∀ k, imK τ2.1 k = imK τ.1 k := fun k => funext fun j => oτ 3 _ (by omega) (by omega)
  have nx := RC_next (κ' := τ2.1 2) hc v (show gi τ2 0 2 = gi τ 0 2 + 1 by rw [gτ, if_pos ⟨rfl, rfl⟩, hτ 0 2 (by omega)]) (oτ 0 7 (by omega) (by omega)) (oτ 0 13 (by omega) (by omega)) (oτ 0 15 (by omega) (by omega)) rc
  refine ⟨nx.2, ?_, ?_, ?_, ?_, ?_, ?_, ?_, fun k hk2 => ?_, ?_, ?_, ?_, ?_, nx.1, ?_⟩
  · rw [bookS_c (m := σ1.1) (m' := σ2.1) (fun k j h1 h2 _ => oσ1 k j (by omega) (by omega) (by omega))]; exact hs
  · rw [bookS_c (m := σ.1) (m' := σ2.1) (fun k j h1 h2 _ => oσ k j (by omega) (by omega) (by omega) (by omega))]; exact s2
  · rw [bookS_c (m := σ.1) (m' := σ2.1) (fun k j h1 h2 _ => oσ k j (by omega) (by omega) (by omega) (by omega))]; exact s3
  · exact ⟨(oσ 79 0 (by omega) (by omega) (by omega) (by omega)).trans s4.1, (oσ 79 1 (by omega) (by omega) (by omega) (by omega)).trans s4.2⟩
  · rw [eκ, bookK_c (m := σ1.1) (m' := σ2.1) (fun k j h1 h2 _ _ => oσ1 k j (by omega) (by omega) (by omega))]; exact hb
  · rw [eκ]; exact hk
  · rw [eκ]; exact hLW _ _ _ _ _ _ (lawE_c (fun k j h1 h2 _ => oσ1 k j (by omega) (by omega) (by omega))) (fun _ _ _ => rfl) hl
  · have := im k hk2
    rw [oσ 43 k (by omega) (by omega) (by omega) (by omega), oτ 4 k (by omega) (by omega), e3]
    refine ⟨this.1, fun z => ?_⟩
    obtain ⟨p, q, r⟩ := this.2 z
    refine ⟨?_, q, ?_⟩
    · rw [bookK_c (m := σ.1) (m' := σ2.1) (fun i j h1 h2 _ _ => oσ i j (by omega) (by omega) (by omega) (by omega))]; exact p
    · exact hLW _ _ _ _ _ _ (lawE_c (fun i j h1 h2 _ => oσ i j (by omega) (by omega) (by omega) (by omega))) (fun _ _ _ => rfl) r
  · rw [oσ 0 10 (by omega) (by omega) (by omega) (by omega), oτ 0 28 (by omega) (by omega)]
    refine ⟨tp.1, tp.2.1, tp.2.2.1, fun j hj => ?_⟩
    rw [oσ 86 j (by omega) (by omega) (by omega) (by omega), oτ 18 j (by omega) (by omega)]
    exact tp.2.2.2 j hj
  · rw [oσ 0 11 (by omega) (by omega) (by omega) (by omega), oσ 0 12 (by omega) (by omega) (by omega) (by omega), oτ 0 29 (by omega) (by omega), oτ 0 8 (by omega) (by omega)]
    refine ⟨ms.1, ms.2.1, ?_⟩
    rw [gσ, gτ]
    simp
  · rw [oσ 87 0 (by omega) (by omega) (by omega) (by omega), oσ 87 1 (by omega) (by omega) (by omega) (by omega), oσ 87 2 (by omega) (by omega) (by omega) (by omega), oσ 87 3 (by omega) (by omega) (by omega) (by omega), oσ 87 4 (by omega) (by omega) (by omega) (by omega), oτ 1 1 (by omega) (by omega), oτ 1 2 (by omega) (by omega), oτ 1 3 (by omega) (by omega), oτ 1 5 (by omega) (by omega), oτ 1 6 (by omega) (by omega)]
    exact rf
  · refine CC_forgot ?_ ?_ ?_ ?_ ?_ ?_
    · exact ⟨(oσ 46 0 (by omega) (by omega) (by omega) (by omega)).trans cc.1.1, (oσ 46 1 (by omega) (by omega) (by omega) (by omega)).trans cc.1.2⟩
    · exact ⟨(oσ 48 0 (by omega) (by omega) (by omega) (by omega)).trans cc.2.1.1, (oσ 48 1 (by omega) (by omega) (by omega) (by omega)).trans cc.2.1.2⟩
    · exact (gσ 44 15).trans (by simp)
    · exact (gσ 44 16).trans (by simp)
    · exact (gσ 44 17).trans (by simp)
    · exact (gσ 68 8).trans (by simp)
  · intro j x hx
    rw [oτ 17 j (by omega) (by omega)]
    exact wo j x hx
/-- a change of the book that is in use that nothing kept depends on -/
theorem both_accept {a : Int32} (hLW : LWc LW) (hc : c ≤ 600) (h : Inv LW c σ τ) (hσ : ∀ k j, ¬ (2 ≤ k ∧ k ≤ 41) → gi σ1 k j = gi σ k j) (hτ : ∀ k j, k ≠ 2 → gi τ1 k j = gi τ k j)
    (hs : bookS σ1.1 1) (hb : bookK σ1.1 1 (τ1.1 2)) (hk : KW (τ1.1 2)) (hl : LW σ1.1 1 (τ1.1 2)) (hsame : sameK (τ.1 2) (τ1.1 2)) : Both LW c (fX11_accept a σ1) (fX12_good a τ1) := by
  obtain ⟨v, s1, s2, s3, s4, b1, k1, l1, im, tp, ms, rf, cc, rc, wo⟩ := h
  refine ⟨a, _, _, rfl, rfl, ?_⟩
  generalize hσ2 : si σ1 0 13 0 = σ2
  generalize hτ2 : si (si τ1 0 0 0) 0 2 (gi (si τ1 0 0 0) 0 2 + 1) = τ2
  have gσ : ∀ k j, gi σ2 k j = if k = 0 ∧ j = 13 then 0 else gi σ1 k j := by
    intro k j; rw [← hσ2]; simp only [gi_si]
  have gτ : ∀ k j, gi τ2 k j = if k = 0 ∧ j = 2 then gi τ1 0 2 + 1 else if k = 0 ∧ j = 0 then 0 else gi τ1 k j := by
    intro k j; rw [← hτ2]; simp only [gi_si]; simp
  have oσ : ∀ k j, ¬ (k = 0 ∧ j = 13) → ¬ (2 ≤ k ∧ k ≤ 41) → gi σ2 k j = gi σ k j := by
    intro k j a1 a4
    rw [gσ, if_neg a1, hσ k j a4]
  have oσ1 : ∀ k j, k ≠ 0 → gi σ2 k j = gi σ1 k j := by
    intro k j a1
    rw [gσ, if_neg (by omega)]
  have oτ : ∀ k j, ¬ (k = 0 ∧ (j = 0 ∨ j = 2)) → k ≠ 2 → gi τ2 k j = gi τ k j := by
    intro k j a1 a2
    rw [gτ, if_neg (by omega), if_neg (by omega), hτ k j a2]
  have eκ : τ2.1 2 = τ1.1 2 := by
    funext j
    show gi τ2 2 j = gi τ1 2 j
    rw [gτ, if_neg (by omega), if_neg (by omega)]
  have e3 : ∀ k, imK τ2.1 k = imK τ.1 k := fun k => funext fun j => oτ 3 _ (by omega) (by omega)
  have nx := RC_next (κ' := τ2.1 2) hc v (show gi τ2 0 2 = gi τ 0 2 + 1 by rw [gτ, if_pos ⟨rfl, rfl⟩, hτ 0 2 (by omega)]) (oτ 0 7 (by omega) (by omega)) (oτ 0 13 (by omega) (by omega)) (oτ 0 15 (by omega) (by omega)) rc
  refine ⟨nx.2, ?_, ?_, ?_, ?_, ?_, ?_, ?_, fun k hk2 => ?_, ?_, ?_, ?_, ?_, nx.1, ?_⟩
  · rw [bookS_c (m := σ1.1) (m' := σ2.1) (fun k j h1 h2 _ => oσ1 k j (by omega))]; exact hs
  · rw [bookS_c (m := σ.1) (m' := σ2.1) (fun k j h1 h2 _ => oσ k j (by omega) (by omega))]; exact s2
  · rw [bookS_c (m := σ.1) (m' := σ2.1) (fun k j h1 h2 _ => oσ k j (by omega) (by omega))]; exact s3
  · exact ⟨(oσ 79 0 (by omega) (by omega)).trans s4.1, (oσ 79 1 (by omega) (by omega)).trans s4.2⟩
  · rw [eκ, bookK_c (m := σ1.1) (m' := σ2.1) (fun k j h1 h2 _ _ => oσ1 k j (by omega))]; exact hb
  · rw [eκ]; exact hk
  · rw [eκ]; exact hLW _ _ _ _ _ _ (lawE_c (fun k j h1 h2 _ => oσ1 k j (by omega))) (fun _ _ _ => rfl) hl
  · have := im k hk2
    rw [oσ 43 k (by omega) (by omega), oτ 4 k (by omega) (by omega), e3]
    refine ⟨this.1, fun z => ?_⟩
    obtain ⟨p, q, r⟩ := this.2 z
    refine ⟨?_, q, ?_⟩
    · rw [bookK_c (m := σ.1) (m' := σ2.1) (fun i j h1 h2 _ _ => oσ i j (by omega) (by omega))]; exact p
    · exact hLW _ _ _ _ _ _ (lawE_c (fun i j h1 h2 _ => oσ i j (by omega) (by omega))) (fun _ _ _ => rfl) r
  · rw [oσ 0 10 (by omega) (by omega), oτ 0 28 (by omega) (by omega)]
    refine ⟨tp.1, tp.2.1, tp.2.2.1, fun j hj => ?_⟩
    rw [oσ 86 j (by omega) (by omega), oτ 18 j (by omega) (by omega)]
    exact tp.2.2.2 j hj
  · rw [oσ 0 11 (by omega) (by omega), oσ 0 12 (by omega) (by omega), oτ 0 29 (by omega) (by omega), oτ 0 8 (by omega) (by omega)]
    refine ⟨ms.1, ms.2.1, ?_⟩
    rw [gσ, gτ]
    simp
  · rw [oσ 87 0 (by omega) (by omega), oσ 87 1 (by omega) (by omega), oσ 87 2 (by omega) (by omega), oσ 87 3 (by omega) (by omega), oσ 87 4 (by omega) (by omega), oτ 1 1 (by omega) (by omega), oτ 1 2 (by omega) (by omega), oτ 1 3 (by omega) (by omega), oτ 1 5 (by omega) (by omega), oτ 1 6 (by omega) (by omega)]
    exact rf
  · rw [eκ]
    exact CC_s hsame k1 (CC_c (m := σ.1) (m' := σ2.1) (fun k j hh => oσ k j (by omega) (by omega)) cc)
  · intro j x hx
    rw [oτ 17 j (by omega) (by omega)]
    exact wo j x hx
/-- a refused call -/
theorem both_refuse {w : Int} (hLW : LWc LW) (h : Inv LW c σ τ) (hw : w = -1 ∨ w = -2 ∨ w = -3 ∨ w = -5 ∨ w = -6) : Both LW c (fX11_refuse (zI w) σ) (fX12_refuses (zI w) τ) := by
  obtain ⟨v, s1, s2, s3, s4, b1, k1, l1, im, tp, ms, rf, cc, rc, wo⟩ := h
  have hsl : ∃ s : Nat, s < 5 ∧ ((w = -1 ∧ s = 0) ∨ (w = -2 ∧ s = 1) ∨ (w = -3 ∧ s = 2) ∨ (w = -5 ∧ s = 3) ∨ (w = -6 ∧ s = 4)) := by
    rcases hw with h | h | h | h | h
    · exact ⟨0, by omega, by omega⟩
    · exact ⟨1, by omega, by omega⟩
    · exact ⟨2, by omega, by omega⟩
    · exact ⟨3, by omega, by omega⟩
    · exact ⟨4, by omega, by omega⟩
  obtain ⟨s, hs5, hs⟩ := hsl
  have eC : fX11_refuse (zI w) σ = some (zI w, si (si σ 0 13 (zI w)) 87 s (gi σ 87 s + 1)) := by
    unfold fX11_refuse fX11_refuse_b22
    rcases hs with ⟨rfl, rfl⟩ | ⟨rfl, rfl⟩ | ⟨rfl, rfl⟩ | ⟨rfl, rfl⟩ | ⟨rfl, rfl⟩ <;> rfl
  have eM : fX12_refuses (zI w) τ = some (zI w, si (si τ 0 0 (zI w)) 1 (-w).toNat (gi τ 1 (-w).toNat + 1)) := by
    unfold fX12_refuses
    rcases hs with ⟨rfl, rfl⟩ | ⟨rfl, rfl⟩ | ⟨rfl, rfl⟩ | ⟨rfl, rfl⟩ | ⟨rfl, rfl⟩ <;> rfl
  refine ⟨zI w, _, _, eC, eM, ?_⟩
  generalize hσ2 : si (si σ 0 13 (zI w)) 87 s (gi σ 87 s + 1) = σ2
  generalize hτ2 : si (si τ 0 0 (zI w)) 1 (-w).toNat (gi τ 1 (-w).toNat + 1) = τ2
  have gσ : ∀ k j, gi σ2 k j = if k = 87 ∧ j = s then gi σ 87 s + 1 else if k = 0 ∧ j = 13 then zI w else gi σ k j := by
    intro k j; rw [← hσ2]; simp only [gi_si]
  have gτ : ∀ k j, gi τ2 k j = if k = 1 ∧ j = (-w).toNat then gi τ 1 (-w).toNat + 1 else if k = 0 ∧ j = 0 then zI w else gi τ k j := by
    intro k j; rw [← hτ2]; simp only [gi_si]
  have oσ : ∀ k j, ¬ (k = 0 ∧ j = 13) → k ≠ 87 → gi σ2 k j = gi σ k j := by
    intro k j a1 a4
    rw [gσ, if_neg (by omega), if_neg a1]
  have oτ : ∀ k j, ¬ (k = 0 ∧ j = 0) → k ≠ 1 → gi τ2 k j = gi τ k j := by
    intro k j a1 a2
    rw [gτ, if_neg (by omega), if_neg a1]
  have eκ : τ2.1 2 = τ.1 2 := funext fun j => oτ 2 j (by omega) (by omega)
  have e3 : ∀ k, imK τ2.1 k = imK τ.1 k := fun k => funext fun j => oτ 3 _ (by omega) (by omega)
  refine ⟨?_, ?_, ?_, ?_, ?_, ?_, ?_, ?_, fun k hk2 => ?_, ?_, ?_, ?_, ?_, ?_, ?_⟩
  · rw [oτ 0 2 (by omega) (by omega)]; omega
  · rw [bookS_c (m := σ.1) (m' := σ2.1) (fun k j h1 h2 _ => oσ k j (by omega) (by omega))]; exact s1
  · rw [bookS_c (m := σ.1) (m' := σ2.1) (fun k j h1 h2 _ => oσ k j (by omega) (by omega))]; exact s2
  · rw [bookS_c (m := σ.1) (m' := σ2.1) (fun k j h1 h2 _ => oσ k j (by omega) (by omega))]; exact s3
  · exact ⟨(oσ 79 0 (by omega) (by omega)).trans s4.1, (oσ 79 1 (by omega) (by omega)).trans s4.2⟩
  · rw [eκ, bookK_c (m := σ.1) (m' := σ2.1) (fun k j h1 h2 _ _ => oσ k j (by omega) (by omega))]; exact b1
  · rw [eκ]; exact k1
  · rw [eκ]; exact hLW _ _ _ _ _ _ (lawE_c (fun k j h1 h2 _ => oσ k j (by omega) (by omega))) (fun _ _ _ => rfl) l1
  · have := im k hk2
    rw [oσ 43 k (by omega) (by omega), oτ 4 k (by omega) (by omega), e3]
    refine ⟨this.1, fun z => ?_⟩
    obtain ⟨p, q, r⟩ := this.2 z
    refine ⟨?_, q, ?_⟩
    · rw [bookK_c (m := σ.1) (m' := σ2.1) (fun i j h1 h2 _ _ => oσ i j (by omega) (by omega))]; exact p
    · exact hLW _ _ _ _ _ _ (lawE_c (fun i j h1 h2 _ => oσ i j (by omega) (by omega))) (fun _ _ _ => rfl) r
  · rw [oσ 0 10 (by omega) (by omega), oτ 0 28 (by omega) (by omega)]
    refine ⟨tp.1, tp.2.1, tp.2.2.1, fun j hj => ?_⟩
    rw [oσ 86 j (by omega) (by omega), oτ 18 j (by omega) (by omega)]
    exact tp.2.2.2 j hj
  · rw [oσ 0 11 (by omega) (by omega), oσ 0 12 (by omega) (by omega), oτ 0 29 (by omega) (by omega), oτ 0 8 (by omega) (by omega)]
    refine ⟨ms.1, ms.2.1, ?_⟩
    rw [gσ, gτ]
    simp
  · obtain ⟨r0, r1, r2, r3, r4⟩ := rf
    simp only [gσ, gτ]
    rcases hs with ⟨rfl, rfl⟩ | ⟨rfl, rfl⟩ | ⟨rfl, rfl⟩ | ⟨rfl, rfl⟩ | ⟨rfl, rfl⟩ <;> simp [r0, r1, r2, r3, r4]
  · rw [eκ]
    exact CC_c (m := σ.1) (m' := σ2.1) (fun k j hh => oσ k j (by omega) (by omega)) cc
  · rw [eκ]
    exact RC_c (t := τ.1) (t' := τ2.1) (fun k j hh => oτ k j (by omega) (by omega)) rc
  · intro j x hx
    rw [oτ 17 j (by omega) (by omega)]
    exact wo j x hx
end EN
