/-! image, back -/
theorem r_imageL {N : Nat} {τ : qMem} {p : Nat} (hp : p < 2) : ∀ (d i f : Nat) (s : qMem), i + d = 1112 → d < f → (∀ k j, gi s k j = if k = 3 ∧ 1112 * p ≤ j ∧ j < 1112 * p + i then gi τ 2 (j - 1112 * p) else gi τ k j) →
    ∃ t, fX12_image_l17 N f (zI p) (zI i) s = fX12_good 0 (si t 4 p 1) ∧ ∀ k j, gi t k j = if k = 3 ∧ 1112 * p ≤ j ∧ j < 1112 * p + 1112 then gi τ 2 (j - 1112 * p) else gi τ k j := by
  intro d
  induction d with
  | zero =>
    intro i f s hi hf hs
    obtain ⟨f, rfl⟩ : ∃ k, f = k + 1 := ⟨f - 1, by omega⟩
    have : i = 1112 := by omega
    subst this
    refine ⟨s, ?_, hs⟩
    show fX12_image_s17 N _ (zI p) (zI (1112 : Nat)) s = _
    unfold fX12_image_s17
    have k1 : (ck (zI p) 2 = true) = True := zI_ckT (by omega) (by omega) (by omega)
    have z1 : (zI p).toNatClampNeg = p := by rw [zI_clamp (by omega) (by omega)]; omega
    rw [if_pos (by decide)]
    simp only [k1, z1, if_true, nmM, eta2]
    rfl
  | succ d ih =>
    intro i f s hi hf hs
    obtain ⟨f, rfl⟩ : ∃ k, f = k + 1 := ⟨f - 1, by omega⟩
    show ∃ t, fX12_image_s17 N (fX12_image_l17 N f) (zI p) (zI i) s = _ ∧ _
    unfold fX12_image_s17
    have c1 : (1112 ≤ zI i) = False := by rw [show (1112 : Int32) = zI 1112 from rfl, zI_le (by omega) (by omega) (by omega) (by omega)]; exact eq_false (by omega)
    have k1 : (ck (zI i) 1112 = true) = True := zI_ckT (by omega) (by omega) (by omega)
    have z1 : (zI i).toNatClampNeg = i := by rw [zI_clamp (by omega) (by omega)]; omega
    have e2 : (1112 : Int32) * zI p + zI i = zI ((1112 * p + i : Nat) : Int) := by rw [show (1112 : Int32) = zI 1112 from rfl, zI_mul, zI_add]; rfl
    have k2 : (ck (zI ((1112 * p + i : Nat) : Int)) 2224 = true) = True := zI_ckT (by omega) (by omega) (by omega)
    have z2 : (zI ((1112 * p + i : Nat) : Int)).toNatClampNeg = 1112 * p + i := by rw [zI_clamp (by omega) (by omega)]; omega
    have nx : zI i + 1 = zI ((i + 1 : Nat) : Int) := by rw [show (1 : Int32) = zI 1 from rfl, zI_add]; rfl
    simp only [c1, if_false, k1, z1, e2, k2, z2, if_true, nmM, nx]
    refine ih (i + 1) f _ (by omega) (by omega) (fun k j => ?_)
    have g2 : gi s 2 i = gi τ 2 i := by rw [hs, if_neg (by omega)]
    rw [gi_si, g2]
    by_cases q : k = 3 ∧ j = 1112 * p + i
    · rw [if_pos q, if_pos (by omega)]
      congr 1
      omega
    · rw [if_neg q, hs]
      by_cases q2 : k = 3 ∧ 1112 * p ≤ j ∧ j < 1112 * p + i
      · rw [if_pos q2, if_pos (by omega)]
      · rw [if_neg q2, if_neg (by omega)]
theorem r_backL {N : Nat} {τ : qMem} {p : Nat} (hp : p < 2) : ∀ (d i f : Nat) (s : qMem), i + d = 1112 → d < f → (∀ k j, gi s k j = if k = 2 ∧ j < i then gi τ 3 (1112 * p + j) else gi τ k j) →
    ∃ t, fX12_back_l33 N f (zI p) (zI i) s = fX12_good 0 t ∧ ∀ k j, gi t k j = if k = 2 ∧ j < 1112 then gi τ 3 (1112 * p + j) else gi τ k j := by
  intro d
  induction d with
  | zero =>
    intro i f s hi hf hs
    obtain ⟨f, rfl⟩ : ∃ k, f = k + 1 := ⟨f - 1, by omega⟩
    have : i = 1112 := by omega
    subst this
    refine ⟨s, ?_, hs⟩
    show fX12_back_s33 N _ (zI p) (zI (1112 : Nat)) s = _
    unfold fX12_back_s33
    rw [if_pos (by decide), eta2]
  | succ d ih =>
    intro i f s hi hf hs
    obtain ⟨f, rfl⟩ : ∃ k, f = k + 1 := ⟨f - 1, by omega⟩
    show ∃ t, fX12_back_s33 N (fX12_back_l33 N f) (zI p) (zI i) s = _ ∧ _
    unfold fX12_back_s33
    have c1 : (1112 ≤ zI i) = False := by rw [show (1112 : Int32) = zI 1112 from rfl, zI_le (by omega) (by omega) (by omega) (by omega)]; exact eq_false (by omega)
    have k1 : (ck (zI i) 1112 = true) = True := zI_ckT (by omega) (by omega) (by omega)
    have z1 : (zI i).toNatClampNeg = i := by rw [zI_clamp (by omega) (by omega)]; omega
    have e2 : (1112 : Int32) * zI p + zI i = zI ((1112 * p + i : Nat) : Int) := by rw [show (1112 : Int32) = zI 1112 from rfl, zI_mul, zI_add]; rfl
    have k2 : (ck (zI ((1112 * p + i : Nat) : Int)) 2224 = true) = True := zI_ckT (by omega) (by omega) (by omega)
    have z2 : (zI ((1112 * p + i : Nat) : Int)).toNatClampNeg = 1112 * p + i := by rw [zI_clamp (by omega) (by omega)]; omega
    have nx : zI i + 1 = zI ((i + 1 : Nat) : Int) := by rw [show (1 : Int32) = zI 1 from rfl, zI_add]; rfl
    simp only [c1, if_false, k1, z1, e2, k2, z2, if_true, nmM, nx]
    refine ih (i + 1) f _ (by omega) (by omega) (fun k j => ?_)
    have g3 : gi s 3 (1112 * p + i) = gi τ 3 (1112 * p + i) := by rw [hs, if_neg (by omega)]
    rw [gi_si, g3]
    by_cases q : k = 2 ∧ j = i
    · rw [if_pos q, if_pos (by omega), q.2]
    · rw [if_neg q, hs]
      by_cases q2 : k = 2 ∧ j < i
      · rw [if_pos q2, if_pos (by omega)]
      · rw [if_neg q2, if_neg (by omega)]
theorem b_back {c N : Nat} {σ τ : qMem} (hN : 200000 ≤ N) (hc : c ≤ 600) (h : Inv LWd c σ τ) (p1 : Int32) : Both LWd c (fX11_back p1 σ) (fX12_back N p1 τ) := by
  obtain ⟨a, l1, u1, rfl⟩ := zI_ex p1
  have i1 : fX11_isIn (zI a) 0 1 = some (bI (decide (0 ≤ a ∧ a ≤ 1))) := e_isIn (b := 0) (c := 1) l1 u1 (by omega) (by omega) (by omega) (by omega)
  have j1 : fX12_in (zI a) 0 1 = some (bI (decide (0 ≤ a ∧ a ≤ 1))) := e_in (b := 0) (c := 1) l1 u1 (by omega) (by omega) (by omega) (by omega)
  unfold fX11_back fX12_back
  rw [i1, j1, Option.bind_some, Option.bind_some, if_bI, if_bI]
  by_cases q : 0 ≤ a ∧ a ≤ 1
  · rw [if_pos (decide_eq_true q), if_pos (decide_eq_true q)]
    obtain ⟨p, rfl⟩ : ∃ p : Nat, a = p := ⟨a.toNat, by omega⟩
    have hp : p < 2 := by omega
    have k1 : (ck (zI p) 2 = true) = True := zI_ckT (by omega) (by omega) (by omega)
    have z1 : (zI p).toNatClampNeg = p := by rw [zI_clamp (by omega) (by omega)]; omega
    simp only [k1, z1, if_true, eta2]
    have him := h.2.2.2.2.2.2.2.2.1 p hp
    rw [him.1]
    by_cases q0 : gi τ 4 p = 0
    · rw [if_pos q0, if_pos q0]
      exact both_refuse (w := -2) LWd_c h (by omega)
    · rw [if_neg q0, if_neg q0]
      obtain ⟨bI', kI', lI'⟩ := him.2 (by rw [him.1]; exact q0)
      have hD : apart 1 (89 + 41 * p) := by unfold apart; omega
      obtain ⟨σ', e1, c1, c2, c3⟩ := Ho_get (e_bookcopy (σ0 := σ) hD h.2.1 bI' kI' (clauses_rng lI'))
      rw [e1, Option.bind_some]
      obtain ⟨t, e2, g2⟩ := r_backL (N := N) (τ := τ) hp 1112 0 N τ (by omega) (by omega) (fun k j => by rw [if_neg (by omega)])
      have e2' : fX12_back_l33 N N (zI p) 0 τ = fX12_good 0 t := e2
      rw [e2']
      have eκ : ∀ j, j < 1112 → t.1 2 j = imK τ.1 p j := fun j hj => by
        show gi t 2 j = _
        rw [g2, if_pos ⟨rfl, hj⟩]
        rfl
      refine both_changed LWd_c hc h (fun k j hk => c1 k j (by omega)) (fun k j hk => by rw [g2, if_neg (by omega)]) ?_ ?_ ?_ ?_
      · rw [bookS_t (m := σ.1) (m' := σ'.1) (D := 1) c3]; exact h.2.1
      · exact bookK_t (m := σ.1) (m' := σ'.1) (D := 1) (S := 89 + 41 * p) c2 eκ kI' bI'
      · exact KW_t eκ kI'
      · exact LW_t (m := σ.1) (m' := σ'.1) (D := 1) (S := 89 + 41 * p) LWd_c c2 eκ lI'
  · rw [if_neg (by rw [decide_eq_false q]; decide), if_neg (by rw [decide_eq_false q]; decide), eta2, eta2]
    exact both_refuse (w := -1) LWd_c h (by omega)
theorem b_image {c N : Nat} {σ τ : qMem} (hN : 200000 ≤ N) (hc : c ≤ 600) (h : Inv LWd c σ τ) (p1 : Int32) : Both LWd c (fX11_image p1 σ) (fX12_image N p1 τ) := by
  obtain ⟨a, l1, u1, rfl⟩ := zI_ex p1
  have i1 : fX11_isIn (zI a) 0 1 = some (bI (decide (0 ≤ a ∧ a ≤ 1))) := e_isIn (b := 0) (c := 1) l1 u1 (by omega) (by omega) (by omega) (by omega)
  have j1 : fX12_in (zI a) 0 1 = some (bI (decide (0 ≤ a ∧ a ≤ 1))) := e_in (b := 0) (c := 1) l1 u1 (by omega) (by omega) (by omega) (by omega)
  unfold fX11_image fX12_image
  rw [i1, j1, Option.bind_some, Option.bind_some, if_bI, if_bI]
  by_cases q : 0 ≤ a ∧ a ≤ 1
  · rw [if_pos (decide_eq_true q), if_pos (decide_eq_true q)]
    obtain ⟨p, rfl⟩ : ∃ p : Nat, a = p := ⟨a.toNat, by omega⟩
    have hp : p < 2 := by omega
    have k1 : (ck (zI p) 2 = true) = True := zI_ckT (by omega) (by omega) (by omega)
    have z1 : (zI p).toNatClampNeg = p := by rw [zI_clamp (by omega) (by omega)]; omega
    simp only [k1, z1, if_true, eta2, nmM]
    obtain ⟨v, s1, s2, s3, s4, b1, k1', l1', im, tp, ms, rf, cc, rc, wo⟩ := h
    have hD : apart (89 + 41 * p) 1 := by unfold apart; omega
    have hbD : bookS σ.1 (89 + 41 * p) := by
      rcases (by omega : p = 0 ∨ p = 1) with z | z
      · subst z; exact s2
      · subst z; exact s3
    obtain ⟨σ', e1, c1, c2, c3⟩ := Ho_get (e_bookcopy (σ0 := σ) hD hbD b1 k1' (clauses_rng l1'))
    rw [e1, Option.bind_some]
    obtain ⟨t, e2, g2⟩ := r_imageL (N := N) (τ := τ) hp 1112 0 N τ (by omega) (by omega) (fun k j => by rw [if_neg (by omega)])
    have e2' : fX12_image_l17 N N (zI p) 0 τ = fX12_good 0 (si t 4 p 1) := e2
    rw [e2']
    refine ⟨0, _, _, rfl, rfl, ?_⟩
    generalize hσ2 : si (si σ' 43 p (vp_nar .boolean 1)) 0 13 0 = σ2
    generalize hτ2 : si (si (si t 4 p 1) 0 0 0) 0 2 (gi (si (si t 4 p 1) 0 0 0) 0 2 + 1) = τ2
    have gσ : ∀ k j, gi σ2 k j = if k = 0 ∧ j = 13 then 0 else if k = 43 ∧ j = p then 1 else gi σ' k j := by intro k j; rw [← hσ2]; simp only [gi_si]; rfl
    have gτ : ∀ k j, gi τ2 k j = if k = 0 ∧ j = 2 then gi τ 0 2 + 1 else if k = 0 ∧ j = 0 then 0 else if k = 4 ∧ j = p then 1 else gi t k j := by
      intro k j
      rw [← hτ2]
      simp only [gi_si]
      have : gi t 0 2 = gi τ 0 2 := by rw [g2, if_neg (by omega)]
      simp [this]
    have oσ : ∀ k j, ¬ (k = 0 ∧ j = 13) → ¬ (k = 43 ∧ j = p) → ¬ (89 + 41 * p + 2 ≤ k ∧ k ≤ 89 + 41 * p + 38) → gi σ2 k j = gi σ k j := fun k j a1 a2 a3 => by rw [gσ, if_neg a1, if_neg a2]; exact c1 k j a3
    have oσ' : ∀ k j, 89 + 41 * p + 2 ≤ k → k ≤ 89 + 41 * p + 38 → gi σ2 k j = gi σ' k j := fun k j a1 a2 => by rw [gσ, if_neg (by omega), if_neg (by omega)]
    have oτ : ∀ k j, ¬ (k = 0 ∧ (j = 0 ∨ j = 2)) → ¬ (k = 4 ∧ j = p) → ¬ (k = 3 ∧ 1112 * p ≤ j ∧ j < 1112 * p + 1112) → gi τ2 k j = gi τ k j := fun k j a1 a2 a3 => by rw [gτ, if_neg (by omega), if_neg (by omega), if_neg a2, g2, if_neg a3]
    have eκ : τ2.1 2 = τ.1 2 := funext fun j => oτ 2 j (by omega) (by omega) (by omega)
    have eI : ∀ j, j < 1112 → imK τ2.1 p j = τ.1 2 j := fun j hj => by
      show gi τ2 3 (1112 * p + j) = gi τ 2 j
      rw [gτ, if_neg (by omega), if_neg (by omega), if_neg (by omega), g2, if_pos ⟨rfl, by omega, by omega⟩, show 1112 * p + j - 1112 * p = j by omega]
    have nx := RC_next (κ' := τ2.1 2) hc v (show gi τ2 0 2 = gi τ 0 2 + 1 by rw [gτ, if_pos ⟨rfl, rfl⟩]) (oτ 0 7 (by omega) (by omega) (by omega)) (oτ 0 13 (by omega) (by omega) (by omega)) (oτ 0 15 (by omega) (by omega) (by omega)) rc
    have cD : ∀ i j, i ≤ 38 → cpl i ≤ j → j < cph i → σ2.1 (89 + 41 * p + i) j = σ.1 (1 + i) j := fun i j hi hl hh => by
      have i2 : 2 ≤ i := by
        by_cases z : i < 2
        · exfalso
          rcases (by omega : i = 0 ∨ i = 1) with y | y
          · subst y; exact absurd hh (by show ¬ j < 0; omega)
          · subst y; exact absurd hh (by show ¬ j < 0; omega)
        · omega
      exact (oσ' _ j (by omega) (by omega)).trans (c2 i j hi hl hh)
    have hDS : ∀ B, B = 1 ∨ B = 89 ∨ B = 130 → bookS σ.1 B → bookS σ2.1 B := fun B hB hs => by
      by_cases e : B = 89 + 41 * p
      · subst e
        rw [bookS_t (m := σ.1) (m' := σ2.1) (fun i j hj hi => ?_)]
        · exact hs
        · have i2 : 2 ≤ i ∧ i ≤ 38 := by
            by_cases z : 2 ≤ i ∧ i ≤ 38
            · exact z
            · exfalso
              unfold hdB at hi
              rcases (by omega : i = 0 ∨ i = 1 ∨ 39 ≤ i) with y | y | y
              · subst y; simp at hi
              · subst y; simp at hi
              · rw [List.getD_eq_getElem?_getD, List.getElem?_eq_none (by simpa using y)] at hi
                simp at hi
          exact (oσ' _ j (by omega) (by omega)).trans (c3 i j hj hi)
      · rw [bookS_d (m := σ.1) (m' := σ2.1) (fun k j q1 q2 => oσ k j (by omega) (by omega) (by omega))]
        exact hs
    refine ⟨nx.2, hDS 1 (by omega) s1, hDS 89 (by omega) s2, hDS 130 (by omega) s3, ?_, ?_, ?_, ?_, fun k hk2 => ?_, ?_, ?_, ?_, ?_, nx.1, ?_⟩
    · exact ⟨(oσ 79 0 (by omega) (by omega) (by omega)).trans s4.1, (oσ 79 1 (by omega) (by omega) (by omega)).trans s4.2⟩
    · rw [eκ, bookK_c (m := σ.1) (m' := σ2.1) (fun k j h1 h2 _ _ => oσ k j (by omega) (by omega) (by omega))]; exact b1
    · rw [eκ]; exact k1'
    · rw [eκ]; exact LWd_c _ _ _ _ _ _ (lawE_c (fun k j h1 h2 _ => oσ k j (by omega) (by omega) (by omega))) (fun _ _ _ => rfl) l1'
    · by_cases e : k = p
      · subst e
        refine ⟨?_, fun _ => ⟨?_, ?_, ?_⟩⟩
        · rw [gσ, if_neg (by omega), if_pos ⟨rfl, rfl⟩, gτ, if_neg (by omega), if_neg (by omega), if_pos ⟨rfl, rfl⟩]
        · exact bookK_t (m := σ.1) (m' := σ2.1) (D := 89 + 41 * k) (S := 1) cD eI k1' b1
        · exact KW_t eI k1'
        · exact LW_t (m := σ.1) (m' := σ2.1) (D := 89 + 41 * k) (S := 1) LWd_c cD eI l1'
      · have := im k hk2
        have eJ : ∀ j, j < 1112 → imK τ2.1 k j = imK τ.1 k j := fun j hj => oτ 3 _ (by omega) (by omega) (by omega)
        rw [oσ 43 k (by omega) (by omega) (by omega), oτ 4 k (by omega) (by omega) (by omega)]
        refine ⟨this.1, fun z => ?_⟩
        obtain ⟨x, y, w⟩ := this.2 z
        have same : ∀ i j, i ≤ 38 → cpl i ≤ j → j < cph i → σ2.1 (89 + 41 * k + i) j = σ.1 (89 + 41 * k + i) j := fun i j hi _ _ => oσ _ j (by omega) (by omega) (by omega)
        exact ⟨bookK_t (m := σ.1) (m' := σ2.1) (D := 89 + 41 * k) (S := 89 + 41 * k) same eJ y x, KW_t eJ y, LW_t (m := σ.1) (m' := σ2.1) (D := 89 + 41 * k) (S := 89 + 41 * k) LWd_c same eJ w⟩
    · rw [oσ 0 10 (by omega) (by omega) (by omega), oτ 0 28 (by omega) (by omega) (by omega)]
      refine ⟨tp.1, tp.2.1, tp.2.2.1, fun j hj => ?_⟩
      rw [oσ 86 j (by omega) (by omega) (by omega), oτ 18 j (by omega) (by omega) (by omega)]
      exact tp.2.2.2 j hj
    · rw [oσ 0 11 (by omega) (by omega) (by omega), oσ 0 12 (by omega) (by omega) (by omega), oτ 0 29 (by omega) (by omega) (by omega), oτ 0 8 (by omega) (by omega) (by omega)]
      refine ⟨ms.1, ms.2.1, ?_⟩
      rw [gσ, if_pos ⟨rfl, rfl⟩, gτ, if_neg (by omega), if_pos ⟨rfl, rfl⟩]
    · rw [oσ 87 0 (by omega) (by omega) (by omega), oσ 87 1 (by omega) (by omega) (by omega), oσ 87 2 (by omega) (by omega) (by omega), oσ 87 3 (by omega) (by omega) (by omega), oσ 87 4 (by omega) (by omega) (by omega), oτ 1 1 (by omega) (by omega) (by omega), oτ 1 2 (by omega) (by omega) (by omega), oτ 1 3 (by omega) (by omega) (by omega), oτ 1 5 (by omega) (by omega) (by omega), oτ 1 6 (by omega) (by omega) (by omega)]
      exact rf
    · rw [eκ]; exact CC_c (m := σ.1) (m' := σ2.1) (fun k j hh => oσ k j (by omega) (by omega) (by omega)) cc
    · intro j x hx
      rw [oτ 17 j (by omega) (by omega) (by omega)]
      exact wo j x hx
  · rw [if_neg (by rw [decide_eq_false q]; decide), if_neg (by rw [decide_eq_false q]; decide), eta2]
    rw [eta2]
    exact both_refuse (w := -1) LWd_c h (by omega)
