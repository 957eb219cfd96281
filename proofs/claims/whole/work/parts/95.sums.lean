/-! the class reads: parts, terms, sums -/
def St (T : Nat → Int) (L i l s : Nat) (σ : qMem) : Prop := atK T L i σ ∧ i ≤ tkM T L ∧ gi σ 77 6 = zI l ∧ l ≤ 50 ∧ gi σ 78 5 = zI s ∧ s ≤ i
def grew (s : Nat) (c : List (Int × Int)) (σ σ' : qMem) : Prop := (∀ j, j < s → gi σ' 81 j = gi σ 81 j ∧ gi σ' 82 j = gi σ 82 j) ∧ ∀ k x, c[k]? = some x → gi σ' 81 (s + k) = zI x.1 ∧ gi σ' 82 (s + k) = zI x.2
def frR (σ σ' : qMem) : Prop := ∀ k j, ¬ (k = 77 ∨ k = 78 ∨ k = 81 ∨ k = 82) → gi σ' k j = gi σ k j
theorem frR_refl (σ : qMem) : frR σ σ := fun _ _ _ => rfl
theorem frR_trans {a b c : qMem} (h : frR a b) (h2 : frR b c) : frR a c := fun k j hk => (h2 k j hk).trans (h k j hk)
theorem grew_nil (s : Nat) (σ : qMem) : grew s [] σ σ := ⟨fun _ _ => ⟨rfl, rfl⟩, fun k x h => by simp at h⟩
theorem grew_same {s : Nat} {σ σ' : qMem} (h : ∀ j, j < s → gi σ' 81 j = gi σ 81 j ∧ gi σ' 82 j = gi σ 82 j) : grew s [] σ σ' := ⟨h, fun k x h => by simp at h⟩
theorem grew_trans {s : Nat} {c d : List (Int × Int)} {σ1 σ2 σ3 : qMem} (h : grew s c σ1 σ2) (h2 : grew (s + c.length) d σ2 σ3) : grew s (c ++ d) σ1 σ3 := by
  refine ⟨fun j hj => ?_, fun k x hk => ?_⟩
  · have a := h.1 j hj
    have b := h2.1 j (by omega)
    exact ⟨b.1.trans a.1, b.2.trans a.2⟩
  · by_cases q : k < c.length
    · rw [List.getElem?_append_left q] at hk
      have a := h.2 k x hk
      have b := h2.1 (s + k) (by omega)
      exact ⟨b.1.trans a.1, b.2.trans a.2⟩
    · rw [List.getElem?_append_right (by omega)] at hk
      have a := h2.2 _ x hk
      rw [show s + c.length + (k - c.length) = s + k by omega] at a
      exact a
theorem e_add5 {σ : qMem} {s : Nat} {u v : Int} (h5 : gi σ 78 5 = zI s) (hs : s < 400) : ∃ σ', fX5_add 78 (zI u) (zI v) σ = some σ' ∧ gi σ' 78 5 = zI ((s + 1 : Nat) : Int) ∧ grew s [(u, v)] σ σ' ∧ ∀ k j, ¬ ((k = 78 ∧ j = 5) ∨ k = 81 ∨ k = 82) → gi σ' k j = gi σ k j := by
  unfold fX5_add
  have c1 : (400 ≤ zI s) = False := by rw [zl_400, zI_le (by omega) (by omega) (by omega) (by omega)]; exact eq_false (by omega)
  have k0 : (ck (zI s) 400 = true) = True := zI_ckT (by omega) (by omega) (by omega)
  have z0 : (zI s).toNatClampNeg = s := by rw [zI_clamp (by omega) (by omega)]; omega
  have g1 : gi (si σ (78 + 3) s (zI u)) 78 5 = zI s := by rw [gi_si, if_neg (by omega)]; exact h5
  have g2 : gi (si (si σ (78 + 3) s (zI u)) (78 + 4) s (zI v)) 78 5 = zI s := by rw [gi_si, if_neg (by omega)]; exact g1
  simp only [h5, c1, if_false, k0, z0, if_true, nmM, g1, g2]
  refine ⟨_, rfl, ?_, ⟨fun j hj => ⟨?_, ?_⟩, fun k x hk => ?_⟩, fun k j hk => ?_⟩
  · rw [gi_si, if_pos ⟨rfl, rfl⟩, show (1 : Int32) = zI 1 from rfl, zI_add]; rfl
  · rw [gi_si, if_neg (by omega), gi_si, if_neg (by omega), gi_si, if_neg (by omega)]
  · rw [gi_si, if_neg (by omega), gi_si, if_neg (by omega), gi_si, if_neg (by omega)]
  · rcases k with _ | k
    · simp at hk
      subst hk
      exact ⟨by rw [gi_si, if_neg (by omega), gi_si, if_neg (by omega), gi_si, if_pos ⟨rfl, rfl⟩], by rw [gi_si, if_neg (by omega), gi_si, if_pos ⟨rfl, rfl⟩]⟩
    · simp at hk
  · rw [gi_si, if_neg (by omega), gi_si, if_neg (by omega), gi_si, if_neg (by omega)]
theorem n10 : ¬ (1 : Int32) = 0 := by decide
def okE (T : Nat → Int) (L : Nat) (F : qMem → Option (Int32 × qMem)) (P : Nat → Nat → Except Nat (EE × Nat × Nat)) : Prop := ∀ σ i l s, St T L i l s σ →
  (∀ a j l', P i l = .ok (a, j, l') → ∃ σ', F σ = some (1, σ') ∧ St T L j l' (s + a.1.length) σ' ∧ grew s a.1 σ σ' ∧ frR σ σ') ∧ (∀ p, P i l = .error p → ∃ σ', F σ = some (0, σ') ∧ gi σ' 77 4 = zI (tkF T L p) ∧ frR σ σ')
def okEi (T : Nat → Int) (L : Nat) (F : qMem → Option (Int32 × qMem)) (P : Nat → Nat → Except Nat (EE × Nat × Nat)) : Prop := ∀ σ i l s, tcS T L i = 191 → St T L i l s σ →
  (∀ a j l', P i l = .ok (a, j, l') → ∃ σ', F σ = some (1, σ') ∧ St T L j l' (s + a.1.length) σ' ∧ grew s a.1 σ σ' ∧ frR σ σ') ∧ (∀ p, P i l = .error p → ∃ σ', F σ = some (0, σ') ∧ gi σ' 77 4 = zI (tkF T L p) ∧ frR σ σ')
section RP
variable {T : Nat → Int} {L : Nat}
theorem tc_num (hT : okT T L) {i : Nat} : tcS T L i = 50 ↔ kd T L (tkF T L i) = 1 := by
  unfold tcS cdP
  have hk := kd_le T L (tkF T L i)
  rcases (by omega : kd T L (tkF T L i) = 0 ∨ kd T L (tkF T L i) = 1 ∨ kd T L (tkF T L i) = 2 ∨ kd T L (tkF T L i) = 3) with g | g | g | g
  · rw [if_pos g]
    have := wc_rng (slc T (tkF T L i) (te T L (tkF T L i) - tkF T L i))
    omega
  · rw [if_neg (by omega), if_pos g]; omega
  · rw [if_neg (by omega), if_neg (by omega), if_pos g]
    have := hT.2 _ ((kd_lt (T := T) (L := L) (p := tkF T L i)).mp (by omega))
    omega
  · rw [if_neg (by omega), if_neg (by omega), if_neg (by omega)]; omega
theorem St_next {N : Nat} {σ : qMem} {i l s : Nat} (hN : 200000 ≤ N) (hT : okT T L) (h : St T L i l s σ) (hi : i < tkM T L) : ∃ σ', fX6_move N σ = some σ' ∧ St T L (i + 1) l s σ' ∧ grew s [] σ σ' ∧ frR σ σ' := by
  obtain ⟨h1, h2, h3, h4, h5, h6⟩ := h
  obtain ⟨σ', e, a, f⟩ := e_next hN hT h1
  exact ⟨σ', e, ⟨a, by omega, (f _ _ (by omega)).trans h3, h4, (f _ _ (by omega)).trans h5, by omega⟩, grew_same (fun j _ => ⟨f _ _ (by omega), f _ _ (by omega)⟩), fun k j hk => f k j (by omega)⟩
theorem St_add {σ : qMem} {i l s : Nat} {u v : Int} (hT : okT T L) (h : St T L i l s σ) (hs : s < i) : ∃ σ', fX5_add 78 (zI u) (zI v) σ = some σ' ∧ St T L i l (s + 1) σ' ∧ grew s [(u, v)] σ σ' ∧ frR σ σ' := by
  obtain ⟨h1, h2, h3, h4, h5, h6⟩ := h
  have := tkM_le T L
  have := hT.1
  obtain ⟨σ', e, a, g, f⟩ := e_add5 (u := u) (v := v) h5 (by omega)
  exact ⟨σ', e, ⟨atK_fr h1 (fun k j hk => f k j (by omega)), h2, (f _ _ (by omega)).trans h3, h4, a, by omega⟩, g, fun k j hk => f k j (by omega)⟩
theorem e_wordAsked (N : Nat) {σ : qMem} {i : Nat} (hT : okT T L) (h : atK T L i σ) : fX6_wordAsked N σ = some (zI (if 8 ≤ tcS T L i ∧ tcS T L i ≤ 12 then tcS T L i - 8 else -1)) := by
  unfold fX6_wordAsked
  have w7 : fX6_isWord 7 σ = some (bI (decide (tcS T L i = 8))) := e_isWord hT h (w := 7) (by omega)
  have w8 : fX6_isWord 8 σ = some (bI (decide (tcS T L i = 9))) := e_isWord hT h (w := 8) (by omega)
  have w9 : fX6_isWord 9 σ = some (bI (decide (tcS T L i = 10))) := e_isWord hT h (w := 9) (by omega)
  have w10 : fX6_isWord 10 σ = some (bI (decide (tcS T L i = 11))) := e_isWord hT h (w := 10) (by omega)
  have w11 : fX6_isWord 11 σ = some (bI (decide (tcS T L i = 12))) := e_isWord hT h (w := 11) (by omega)
  simp only [w7, w8, w9, w10, w11, Option.bind_some, if_bI, decide_eq_true_eq]
  generalize tcS T L i = x
  by_cases q7 : x = 8
  · subst q7; rfl
  · rw [if_neg q7]
    by_cases q8 : x = 9
    · subst q8; rfl
    · rw [if_neg q8]
      by_cases q9 : x = 10
      · subst q9; rfl
      · rw [if_neg q9]
        by_cases q10 : x = 11
        · subst q10; rfl
        · rw [if_neg q10]
          by_cases q11 : x = 12
          · subst q11; rfl
          · rw [if_neg q11, if_neg (by omega)]; rfl
theorem k_leaf {N : Nat} {inn : Int32 → Int32 → qMem → Option (Int32 × qMem)} {σ : qMem} {i l s : Nat} {v : Int} {u : Int} {w : Int32} (hN : 200000 ≤ N) (hT : okT T L) (h : St T L i l s σ) (hi : i < tkM T L) (hw : (w = 0 ∧ u = 1) ∨ (w = 1 ∧ u = 0)) :
    (l < 50 → ∃ σ', fX6_readPart_b63 N inn w (zI v) σ = some (1, σ') ∧ St T L (i + 1) (l + 1) (s + 1) σ' ∧ grew s [(u, v)] σ σ' ∧ frR σ σ') ∧ (50 ≤ l → fX6_readPart_b63 N inn w (zI v) σ = some (0, σ)) := by
  have hSt := h
  obtain ⟨h1, h2, h3, h4, h5, h6⟩ := h
  have c : (gi σ 77 6 < 50) = (l < 50) := by rw [h3, show (50 : Int32) = zI 50 from rfl, zI_lt (by omega) (by omega) (by omega) (by omega)]; exact propext (by omega)
  unfold fX6_readPart_b63
  simp only [c, nmM]
  refine ⟨fun q => ?_, fun q => by rw [if_neg (by omega)]⟩
  rw [if_pos q]
  have e1 : gi σ 77 6 + 1 = zI ((l + 1 : Nat) : Int) := by rw [h3, show (1 : Int32) = zI 1 from rfl, zI_add]; rfl
  rw [e1]
  have := tkM_le T L
  have := hT.1
  have g5 : gi (si σ 77 6 (zI ((l + 1 : Nat) : Int))) 78 5 = zI s := by rw [gi_si, if_neg (by omega)]; exact h5
  obtain ⟨σ2, e2, a2, gr2, f2⟩ := e_add5 (u := u) (v := v) g5 (by omega)
  have at2 : atK T L i σ2 := atK_fr (atK_fr h1 (σ' := si σ 77 6 (zI ((l + 1 : Nat) : Int))) (fun k j hk => by rw [gi_si, if_neg (by omega)])) (fun k j hk => f2 k j (by omega))
  obtain ⟨σ3, e3, a3, f3⟩ := e_next hN hT at2
  refine ⟨σ3, ?_, ⟨a3, by omega, ?_, by omega, (f3 _ _ (by omega)).trans a2, by omega⟩, ?_, fun k j hk => ?_⟩
  · rcases hw with ⟨rfl, rfl⟩ | ⟨rfl, rfl⟩
    · rw [if_pos rfl]
      unfold fX6_readPart_b97
      have e2' : fX5_add 78 1 (zI v) (si σ 77 6 (zI ((l + 1 : Nat) : Int))) = some σ2 := e2
      rw [e2', Option.bind_some, e3, Option.bind_some]
    · rw [if_neg (by decide)]
      unfold fX6_readPart_b97
      have e2' : fX5_add 78 0 (zI v) (si σ 77 6 (zI ((l + 1 : Nat) : Int))) = some σ2 := e2
      rw [e2', Option.bind_some, e3, Option.bind_some]
  · rw [f3 _ _ (by omega), f2 _ _ (by omega), gi_si, if_pos ⟨rfl, rfl⟩]
  · refine ⟨fun j hj => ?_, fun k x hk => ?_⟩
    · have := gr2.1 j hj
      exact ⟨by rw [f3 _ _ (by omega), this.1, gi_si, if_neg (by omega)], by rw [f3 _ _ (by omega), this.2, gi_si, if_neg (by omega)]⟩
    · have := gr2.2 k x hk
      exact ⟨by rw [f3 _ _ (by omega), this.1], by rw [f3 _ _ (by omega), this.2]⟩
  · rw [f3 _ _ (by omega), f2 _ _ (by omega), gi_si, if_neg (by omega)]
theorem k_part {N : Nat} {inn : Int32 → Int32 → qMem → Option (Int32 × qMem)} {p1 : Int32} {P : Nat → Nat → Except Nat (EE × Nat × Nat)} (hN : 200000 ≤ N) (hT : okT T L) (hi : okEi T L (inn p1 93) P) : okE T L (fX6_readPart N inn p1) (pPart (tcS T L) (tvS T L) P) := by
  intro σ i l s h
  have hA := h.1
  have f91 : fX6_isSign 91 σ = some (bI (decide (tcS T L i = 191))) := e_isSign (s := 91) hT hA (by omega) (by omega)
  have ef : fX6_readPart N inn p1 σ = if tcS T L i = 191 then ((inn p1 93 σ).bind fun y2 => (if y2.1 = 0 ∨ y2.1 = 1 then some (y2.1, y2.2) else none)) else (if (gi σ 77 3) = 1 then (fX6_readPart_b30 N inn 1 σ) else (fX6_readPart_b30 N inn 0 σ)) := by
    unfold fX6_readPart
    rw [f91, Option.bind_some, if_bI]
    simp only [decide_eq_true_eq]
  unfold pPart
  by_cases c : tcS T L i = 191
  · rw [if_pos c] at ef
    rw [if_pos c]
    obtain ⟨o, e⟩ := hi σ i l s c h
    refine ⟨fun a j l' hp => ?_, fun p hp => ?_⟩
    · obtain ⟨σ', e1, r⟩ := o a j l' hp
      exact ⟨σ', by rw [ef, e1, Option.bind_some, if_pos (Or.inr rfl)], r⟩
    · obtain ⟨σ', e1, r⟩ := e p hp
      exact ⟨σ', by rw [ef, e1, Option.bind_some, if_pos (Or.inl rfl)], r⟩
  · rw [if_neg c] at ef
    rw [if_neg c]
    have hk := kd_le T L (tkF T L i)
    have c1 : (gi σ 77 3 = 1) = (tcS T L i = 50) := by
      rw [hA.2.1, show (1 : Int32) = zI 1 from rfl, zI_eq (by omega) (by omega) (by omega) (by omega)]
      exact propext ((show ((kd T L (tkF T L i) : Nat) : Int) = 1 ↔ kd T L (tkF T L i) = 1 by omega).trans (tc_num hT).symm)
    simp only [c1] at ef
    have ba : ∀ (o : Except Nat (EE × Nat × Nat)) (F : Option (Int32 × qMem)), o = .error i → F = some (0, σ) → (∀ a j l', o = .ok (a, j, l') → ∃ σ', F = some (1, σ') ∧ St T L j l' (s + a.1.length) σ' ∧ grew s a.1 σ σ' ∧ frR σ σ') ∧ (∀ p, o = .error p → ∃ σ', F = some (0, σ') ∧ gi σ' 77 4 = zI (tkF T L p) ∧ frR σ σ') := by
      intro o F ho hF
      refine ⟨fun a j l' hp => by rw [ho] at hp; simp at hp, fun p hp => ?_⟩
      rw [ho] at hp
      have : i = p := by simpa using hp
      subst this
      exact ⟨σ, hF, hA.2.2.1, frR_refl σ⟩
    by_cases c5 : tcS T L i = 50
    · rw [if_pos c5] at ef
      have hlt : i < tkM T L := tc_0 (by omega)
      obtain ⟨v, ev, v0, v1, v2, v3⟩ := e_number hN hT hA ((tc_num hT).mp c5)
      have e30 : fX6_readPart_b30 N inn 1 σ = if 1000 < v then some (0, σ) else fX6_readPart_b63 N inn 1 (zI v) σ := by
        unfold fX6_readPart_b30
        rw [if_neg (by decide), ev, Option.bind_some]
        unfold fX6_readPart_b46
        have d1 : (zI v = -1) = False := by rw [show (-1 : Int32) = zI (-1) from rfl, zI_eq (by omega) (by omega) (by omega) (by omega)]; exact eq_false (by omega)
        have d2 : (1000 < zI v) = (1000 < v) := by rw [zl_1000, zI_lt (by omega) (by omega) (by omega) (by omega)]
        simp only [d1, if_false, d2]
        rw [if_neg (by decide)]
      rw [e30] at ef
      by_cases q : v ≤ 1000
      · rw [if_neg (by omega)] at ef
        rw [if_pos (Or.inl ⟨c5, v2.mp q⟩)]
        obtain ⟨k1, k2⟩ := k_leaf (inn := inn) (v := v) (u := 0) (w := 1) hN hT h hlt (Or.inr ⟨rfl, rfl⟩)
        by_cases q2 : 50 ≤ l
        · rw [if_pos q2]
          exact ba _ _ rfl (ef.trans (k2 q2))
        · rw [if_neg q2]
          obtain ⟨σ', e1, s1, g1, f1⟩ := k1 (by omega)
          refine ⟨fun a j l' hp => ?_, fun p hp => by simp at hp⟩
          simp only [Except.ok.injEq, Prod.mk.injEq] at hp
          obtain ⟨p1, p2, p3⟩ := hp
          subst p2 p3
          rw [← p1, if_pos c5, v3 q]
          exact ⟨σ', ef.trans e1, s1, g1, f1⟩
      · rw [if_pos (by omega)] at ef
        rw [if_neg (by omega)]
        exact ba _ _ rfl ef
    · rw [if_neg c5] at ef
      have e30 : fX6_readPart_b30 N inn 0 σ = fX6_readPart_b46 N inn 0 (zI (if 8 ≤ tcS T L i ∧ tcS T L i ≤ 12 then tcS T L i - 8 else -1)) σ := by
        unfold fX6_readPart_b30
        rw [if_pos rfl, e_wordAsked N hT hA, Option.bind_some]
      rw [e30] at ef
      unfold fX6_readPart_b46 at ef
      by_cases q : 8 ≤ tcS T L i ∧ tcS T L i ≤ 12
      · have hlt : i < tkM T L := tc_0 (by omega)
        have d1 : (zI (tcS T L i - 8) = -1) = False := by rw [show (-1 : Int32) = zI (-1) from rfl, zI_eq (by omega) (by omega) (by omega) (by omega)]; exact eq_false (by omega)
        rw [if_pos q] at ef
        simp only [d1, if_false, if_true] at ef
        rw [if_pos (Or.inr q)]
        obtain ⟨k1, k2⟩ := k_leaf (inn := inn) (v := tcS T L i - 8) (u := 1) (w := 0) hN hT h hlt (Or.inl ⟨rfl, rfl⟩)
        by_cases q2 : 50 ≤ l
        · rw [if_pos q2]
          exact ba _ _ rfl (ef.trans (k2 q2))
        · rw [if_neg q2]
          obtain ⟨σ', e1, s1, g1, f1⟩ := k1 (by omega)
          refine ⟨fun a j l' hp => ?_, fun p hp => by simp at hp⟩
          simp only [Except.ok.injEq, Prod.mk.injEq] at hp
          obtain ⟨p1, p2, p3⟩ := hp
          subst p2 p3
          rw [← p1, if_neg c5]
          exact ⟨σ', ef.trans e1, s1, g1, f1⟩
      · rw [if_neg q, if_pos (by rfl)] at ef
        rw [if_neg (by omega)]
        exact ba _ _ rfl ef
theorem k_termL {N : Nat} {inn : Int32 → Int32 → qMem → Option (Int32 × qMem)} {p1 : Int32} {P : Nat → Nat → Except Nat (EE × Nat × Nat)} (hN : 200000 ≤ N) (hT : okT T L) (hi : okEi T L (inn p1 93) P) (ha : advE (tkM T L) P) : ∀ (f n c : Nat) (a : EE) (σ : qMem) (i l s : Nat), 500 ≤ f + i → c ≤ i → L < n + i → St T L i l s σ →
    (∀ b j l', pTermL (tcS T L) (tvS T L) P f a i l = .ok (b, j, l') → ∃ σ' r, fX6_readTerm_l12 N inn n p1 (zI c) σ = some (1, σ') ∧ b.1 = a.1 ++ r ∧ St T L j l' (s + r.length) σ' ∧ grew s r σ σ' ∧ frR σ σ') ∧ (∀ p, pTermL (tcS T L) (tvS T L) P f a i l = .error p → ∃ σ', fX6_readTerm_l12 N inn n p1 (zI c) σ = some (0, σ') ∧ gi σ' 77 4 = zI (tkF T L p) ∧ frR σ σ') := by
  have hM := tkM_le T L
  have hL := hT.1
  intro f
  induction f with
  | zero => intro n c a σ i l s hf hc hn h; have := h.2.1; omega
  | succ f ih =>
    intro n c a σ i l s hf hc hn h
    have hiM := h.2.1
    obtain ⟨n, rfl⟩ : ∃ k, n = k + 1 := ⟨n - 1, by omega⟩
    have hA := h.1
    have g2 := hA.1.2.1
    have f1 : fX6_isSign 42 σ = some (bI (decide (tcS T L i = 142))) := e_isSign (s := 42) hT hA (by omega) (by omega)
    have f2 : fX6_isSign 47 σ = some (bI (decide (tcS T L i = 147))) := e_isSign (s := 47) hT hA (by omega) (by omega)
    have c0 : (zI L ≤ zI c) = (L ≤ c) := by rw [zI_le (by omega) (by omega) (by omega) (by omega)]; exact propext (by omega)
    have ef : fX6_readTerm_l12 N inn (n + 1) p1 (zI c) σ = if L ≤ c then some (1, σ) else if tcS T L i = 142 ∨ tcS T L i = 147 then fX6_readTerm_b52 N inn (fX6_readTerm_l12 N inn n) p1 (zI c) (zI (if tcS T L i = 142 then 4 else 5)) σ else some (1, σ) := by
      show fX6_readTerm_s12 N inn _ p1 (zI c) σ = _
      unfold fX6_readTerm_s12 fX6_readTerm_b38
      simp only [g2, c0, f1, f2, Option.bind_some, if_bI, decide_eq_true_eq]
      by_cases q0 : L ≤ c
      · rw [if_pos q0, if_pos q0]
      · rw [if_neg q0, if_neg q0]
        by_cases q1 : tcS T L i = 142
        · rw [if_pos q1, if_pos q1, if_pos (Or.inl q1), if_pos q1]; rfl
        · rw [if_neg q1]
          by_cases q2 : tcS T L i = 147
          · rw [if_pos q2, if_neg q1, if_pos (Or.inr q2), if_neg q1]; rfl
          · rw [if_neg q2, if_neg (by omega)]
    unfold pTermL
    by_cases q : tcS T L i = 142 ∨ tcS T L i = 147
    · have hlt : i < tkM T L := tc_0 (by omega)
      have hge := tkF_ge (T := T) (L := L) (i := i)
      have hfl := tk_lt.mp hlt
      rw [if_neg (by omega), if_pos q] at ef
      rw [if_pos q]
      generalize hop : (if tcS T L i = 142 then (4 : Int) else 5) = op at *
      obtain ⟨σ1, e1, s1, g1, r1⟩ := St_next hN hT h hlt
      obtain ⟨ko, ke⟩ := k_part hN hT hi σ1 (i + 1) l s s1
      have adv := adv_part (tc := tcS T L) (tv := tvS T L) (n := tkM T L) (fun _ z => tc_0 z) ha (i + 1) l
      cases hp : pPart (tcS T L) (tvS T L) P (i + 1) l with
      | error p =>
        obtain ⟨σ2, e2, t2, r2⟩ := ke p hp
        refine ⟨fun b j l' hb => by simp [bd] at hb, fun p' hb => ?_⟩
        have : p = p' := by simpa [bd] using hb
        subst this
        refine ⟨σ2, ?_, t2, frR_trans r1 r2⟩
        rw [ef]
        unfold fX6_readTerm_b52
        rw [e1, Option.bind_some, e2, Option.bind_some, if_pos rfl]
      | ok x =>
        obtain ⟨b, j, l'⟩ := x
        obtain ⟨σ2, e2, s2, g2', r2⟩ := ko b j l' hp
        have av := adv b j l' hp
        have s6 := h.2.2.2.2.2
        obtain ⟨σ3, e3, s3, g3, r3⟩ := St_add (u := op) (v := 0) hT s2 (by omega)
        have eF : fX6_readTerm_l12 N inn (n + 1) p1 (zI c) σ = fX6_readTerm_l12 N inn n p1 (zI ((c + 1 : Nat) : Int)) σ3 := by
          rw [ef]
          unfold fX6_readTerm_b52
          have e3' : fX5_add 78 (zI op) 0 σ2 = some σ3 := e3
          rw [e1, Option.bind_some, e2, Option.bind_some, if_neg (show ¬ ((1 : Int32), σ2).1 = 0 from n10), e3', Option.bind_some]
          congr 1
          rw [show (1 : Int32) = zI 1 from rfl, zI_add]
          rfl
        rw [eF]
        show (∀ b' j' l'', pTermL (tcS T L) (tvS T L) P f (binE op a b) j l' = .ok (b', j', l'') → _) ∧ (∀ p, pTermL (tcS T L) (tvS T L) P f (binE op a b) j l' = .error p → _)
        have g13 : grew s (b.1 ++ [(op, 0)]) σ σ3 := by
          have := grew_trans (grew_trans g1 (c := []) (d := b.1) g2') (d := [(op, 0)]) (by simpa using g3)
          simpa using this
        obtain ⟨io, ie⟩ := ih n (c + 1) (binE op a b) σ3 j l' (s + b.1.length + 1) (by omega) (by omega) (by omega) s3
        refine ⟨fun b' j' l'' hb => ?_, fun p hb => ?_⟩
        · obtain ⟨σ', r, e4, e5, s4, g4, r4⟩ := io b' j' l'' hb
          refine ⟨σ', b.1 ++ [(op, 0)] ++ r, e4, ?_, ?_, grew_trans g13 ?_, frR_trans (frR_trans r1 r2) (frR_trans r3 r4)⟩
          · rw [e5]
            simp only [binE, List.append_assoc]
          · have ll : s + (b.1 ++ [(op, 0)] ++ r).length = s + b.1.length + 1 + r.length := by
              simp only [List.length_append, List.length_cons, List.length_nil]
              omega
            rw [ll]
            exact s4
          · have ll : s + (b.1 ++ [(op, 0)]).length = s + b.1.length + 1 := by
              simp only [List.length_append, List.length_cons, List.length_nil]
              omega
            rw [ll]
            exact g4
        · obtain ⟨σ', e4, t4, r4⟩ := ie p hb
          exact ⟨σ', e4, t4, frR_trans (frR_trans r1 r2) (frR_trans r3 r4)⟩
    · rw [if_neg q] at ef
      have ef' : fX6_readTerm_l12 N inn (n + 1) p1 (zI c) σ = some (1, σ) := by rw [ef]; split <;> rfl
      rw [if_neg q]
      refine ⟨fun b j l' hb => ?_, fun p hb => by simp at hb⟩
      simp only [Except.ok.injEq, Prod.mk.injEq] at hb
      obtain ⟨p1, p2, p3⟩ := hb
      subst p1 p2 p3
      exact ⟨σ, [], ef', by simp, by simpa using h, grew_nil s σ, frR_refl σ⟩
theorem k_term {N : Nat} {inn : Int32 → Int32 → qMem → Option (Int32 × qMem)} {p1 : Int32} {P : Nat → Nat → Except Nat (EE × Nat × Nat)} (hN : 200000 ≤ N) (hT : okT T L) (hi : okEi T L (inn p1 93) P) (ha : advE (tkM T L) P) : okE T L (fX6_readTerm N inn p1) (pTerm (tcS T L) (tvS T L) P) := by
  intro σ i l s h
  have hM := tkM_le T L
  have hL := hT.1
  obtain ⟨ko, ke⟩ := k_part hN hT hi σ i l s h
  unfold pTerm
  cases hp : pPart (tcS T L) (tvS T L) P i l with
  | error p =>
    obtain ⟨σ2, e2, t2, r2⟩ := ke p hp
    refine ⟨fun b j l' hb => by simp [bd] at hb, fun p' hb => ?_⟩
    have : p = p' := by simpa [bd] using hb
    subst this
    refine ⟨σ2, ?_, t2, r2⟩
    unfold fX6_readTerm
    rw [e2, Option.bind_some, if_pos rfl]
  | ok x =>
    obtain ⟨b, j, l'⟩ := x
    obtain ⟨σ2, e2, s2, g2, r2⟩ := ko b j l' hp
    have eF : fX6_readTerm N inn p1 σ = fX6_readTerm_l12 N inn N p1 (zI (0 : Nat)) σ2 := by
      unfold fX6_readTerm
      rw [e2, Option.bind_some, if_neg (show ¬ ((1 : Int32), σ2).1 = 0 from n10)]
      rfl
    rw [eF]
    show (∀ b' j' l'', pTermL (tcS T L) (tvS T L) P 500 b j l' = .ok (b', j', l'') → _) ∧ (∀ p, pTermL (tcS T L) (tvS T L) P 500 b j l' = .error p → _)
    obtain ⟨io, ie⟩ := k_termL hN hT hi ha 500 N 0 b σ2 j l' (s + b.1.length) (by omega) (by omega) (by omega) s2
    refine ⟨fun b' j' l'' hb => ?_, fun p hb => ?_⟩
    · obtain ⟨σ', r, e4, e5, s4, g4, r4⟩ := io b' j' l'' hb
      refine ⟨σ', e4, ?_, ?_, frR_trans r2 r4⟩
      · rw [e5, List.length_append, ← Nat.add_assoc]; exact s4
      · rw [e5]; exact grew_trans g2 g4
    · obtain ⟨σ', e4, t4, r4⟩ := ie p hb
      exact ⟨σ', e4, t4, frR_trans r2 r4⟩
theorem k_sumL {N : Nat} {inn : Int32 → Int32 → qMem → Option (Int32 × qMem)} {p1 : Int32} {P : Nat → Nat → Except Nat (EE × Nat × Nat)} (hN : 200000 ≤ N) (hT : okT T L) (hi : okEi T L (inn p1 93) P) (ha : advE (tkM T L) P) : ∀ (f n c : Nat) (a : EE) (σ : qMem) (i l s : Nat), 500 ≤ f + i → c ≤ i → L < n + i → St T L i l s σ →
    (∀ b j l', pSumL (tcS T L) (tvS T L) P f a i l = .ok (b, j, l') → ∃ σ' r, fX6_readSum_l12 N inn n p1 (zI c) σ = some (1, σ') ∧ b.1 = a.1 ++ r ∧ St T L j l' (s + r.length) σ' ∧ grew s r σ σ' ∧ frR σ σ') ∧ (∀ p, pSumL (tcS T L) (tvS T L) P f a i l = .error p → ∃ σ', fX6_readSum_l12 N inn n p1 (zI c) σ = some (0, σ') ∧ gi σ' 77 4 = zI (tkF T L p) ∧ frR σ σ') := by
  have hM := tkM_le T L
  have hL := hT.1
  intro f
  induction f with
  | zero => intro n c a σ i l s hf hc hn h; have := h.2.1; omega
  | succ f ih =>
    intro n c a σ i l s hf hc hn h
    have hiM := h.2.1
    obtain ⟨n, rfl⟩ : ∃ k, n = k + 1 := ⟨n - 1, by omega⟩
    have hA := h.1
    have g2 := hA.1.2.1
    have f1 : fX6_isSign 43 σ = some (bI (decide (tcS T L i = 143))) := e_isSign (s := 43) hT hA (by omega) (by omega)
    have f2 : fX6_isSign 45 σ = some (bI (decide (tcS T L i = 145))) := e_isSign (s := 45) hT hA (by omega) (by omega)
    have c0 : (zI L ≤ zI c) = (L ≤ c) := by rw [zI_le (by omega) (by omega) (by omega) (by omega)]; exact propext (by omega)
    have ef : fX6_readSum_l12 N inn (n + 1) p1 (zI c) σ = if L ≤ c then some (1, σ) else if tcS T L i = 143 ∨ tcS T L i = 145 then fX6_readSum_b52 N inn (fX6_readSum_l12 N inn n) p1 (zI c) (zI (if tcS T L i = 143 then 2 else 3)) σ else some (1, σ) := by
      show fX6_readSum_s12 N inn _ p1 (zI c) σ = _
      unfold fX6_readSum_s12 fX6_readSum_b38
      simp only [g2, c0, f1, f2, Option.bind_some, if_bI, decide_eq_true_eq]
      by_cases q0 : L ≤ c
      · rw [if_pos q0, if_pos q0]
      · rw [if_neg q0, if_neg q0]
        by_cases q1 : tcS T L i = 143
        · rw [if_pos q1, if_pos q1, if_pos (Or.inl q1), if_pos q1]; rfl
        · rw [if_neg q1]
          by_cases q2 : tcS T L i = 145
          · rw [if_pos q2, if_neg q1, if_pos (Or.inr q2), if_neg q1]; rfl
          · rw [if_neg q2, if_neg (by omega)]
    unfold pSumL
    by_cases q : tcS T L i = 143 ∨ tcS T L i = 145
    · have hlt : i < tkM T L := tc_0 (by omega)
      have hge := tkF_ge (T := T) (L := L) (i := i)
      have hfl := tk_lt.mp hlt
      rw [if_neg (by omega), if_pos q] at ef
      rw [if_pos q]
      generalize hop : (if tcS T L i = 143 then (2 : Int) else 3) = op at *
      obtain ⟨σ1, e1, s1, g1, r1⟩ := St_next hN hT h hlt
      obtain ⟨ko, ke⟩ := k_term hN hT hi ha σ1 (i + 1) l s s1
      have adv := adv_term (tc := tcS T L) (tv := tvS T L) (n := tkM T L) (fun _ z => tc_0 z) ha (i + 1) l
      cases hp : pTerm (tcS T L) (tvS T L) P (i + 1) l with
      | error p =>
        obtain ⟨σ2, e2, t2, r2⟩ := ke p hp
        refine ⟨fun b j l' hb => by simp [bd] at hb, fun p' hb => ?_⟩
        have : p = p' := by simpa [bd] using hb
        subst this
        refine ⟨σ2, ?_, t2, frR_trans r1 r2⟩
        rw [ef]
        unfold fX6_readSum_b52
        rw [e1, Option.bind_some, e2, Option.bind_some, if_pos rfl]
      | ok x =>
        obtain ⟨b, j, l'⟩ := x
        obtain ⟨σ2, e2, s2, g2', r2⟩ := ko b j l' hp
        have av := adv b j l' hp
        have s6 := h.2.2.2.2.2
        obtain ⟨σ3, e3, s3, g3, r3⟩ := St_add (u := op) (v := 0) hT s2 (by omega)
        have eF : fX6_readSum_l12 N inn (n + 1) p1 (zI c) σ = fX6_readSum_l12 N inn n p1 (zI ((c + 1 : Nat) : Int)) σ3 := by
          rw [ef]
          unfold fX6_readSum_b52
          have e3' : fX5_add 78 (zI op) 0 σ2 = some σ3 := e3
          rw [e1, Option.bind_some, e2, Option.bind_some, if_neg (show ¬ ((1 : Int32), σ2).1 = 0 from n10), e3', Option.bind_some]
          congr 1
          rw [show (1 : Int32) = zI 1 from rfl, zI_add]
          rfl
        rw [eF]
        show (∀ b' j' l'', pSumL (tcS T L) (tvS T L) P f (binE op a b) j l' = .ok (b', j', l'') → _) ∧ (∀ p, pSumL (tcS T L) (tvS T L) P f (binE op a b) j l' = .error p → _)
        have g13 : grew s (b.1 ++ [(op, 0)]) σ σ3 := by
          have := grew_trans (grew_trans g1 (c := []) (d := b.1) g2') (d := [(op, 0)]) (by simpa using g3)
          simpa using this
        obtain ⟨io, ie⟩ := ih n (c + 1) (binE op a b) σ3 j l' (s + b.1.length + 1) (by omega) (by omega) (by omega) s3
        refine ⟨fun b' j' l'' hb => ?_, fun p hb => ?_⟩
        · obtain ⟨σ', r, e4, e5, s4, g4, r4⟩ := io b' j' l'' hb
          refine ⟨σ', b.1 ++ [(op, 0)] ++ r, e4, ?_, ?_, grew_trans g13 ?_, frR_trans (frR_trans r1 r2) (frR_trans r3 r4)⟩
          · rw [e5]
            simp only [binE, List.append_assoc]
          · have ll : s + (b.1 ++ [(op, 0)] ++ r).length = s + b.1.length + 1 + r.length := by
              simp only [List.length_append, List.length_cons, List.length_nil]
              omega
            rw [ll]
            exact s4
          · have ll : s + (b.1 ++ [(op, 0)]).length = s + b.1.length + 1 := by
              simp only [List.length_append, List.length_cons, List.length_nil]
              omega
            rw [ll]
            exact g4
        · obtain ⟨σ', e4, t4, r4⟩ := ie p hb
          exact ⟨σ', e4, t4, frR_trans (frR_trans r1 r2) (frR_trans r3 r4)⟩
    · rw [if_neg q] at ef
      have ef' : fX6_readSum_l12 N inn (n + 1) p1 (zI c) σ = some (1, σ) := by rw [ef]; split <;> rfl
      rw [if_neg q]
      refine ⟨fun b j l' hb => ?_, fun p hb => by simp at hb⟩
      simp only [Except.ok.injEq, Prod.mk.injEq] at hb
      obtain ⟨p1, p2, p3⟩ := hb
      subst p1 p2 p3
      exact ⟨σ, [], ef', by simp, by simpa using h, grew_nil s σ, frR_refl σ⟩
theorem k_sum {N : Nat} {inn : Int32 → Int32 → qMem → Option (Int32 × qMem)} {p1 : Int32} {P : Nat → Nat → Except Nat (EE × Nat × Nat)} (hN : 200000 ≤ N) (hT : okT T L) (hi : okEi T L (inn p1 93) P) (ha : advE (tkM T L) P) : okE T L (fX6_readSum N inn p1) (pSum (tcS T L) (tvS T L) P) := by
  intro σ i l s h
  have hM := tkM_le T L
  have hL := hT.1
  obtain ⟨ko, ke⟩ := k_term hN hT hi ha σ i l s h
  unfold pSum
  cases hp : pTerm (tcS T L) (tvS T L) P i l with
  | error p =>
    obtain ⟨σ2, e2, t2, r2⟩ := ke p hp
    refine ⟨fun b j l' hb => by simp [bd] at hb, fun p' hb => ?_⟩
    have : p = p' := by simpa [bd] using hb
    subst this
    refine ⟨σ2, ?_, t2, r2⟩
    unfold fX6_readSum
    rw [e2, Option.bind_some, if_pos rfl]
  | ok x =>
    obtain ⟨b, j, l'⟩ := x
    obtain ⟨σ2, e2, s2, g2, r2⟩ := ko b j l' hp
    have eF : fX6_readSum N inn p1 σ = fX6_readSum_l12 N inn N p1 (zI (0 : Nat)) σ2 := by
      unfold fX6_readSum
      rw [e2, Option.bind_some, if_neg (show ¬ ((1 : Int32), σ2).1 = 0 from n10)]
      rfl
    rw [eF]
    show (∀ b' j' l'', pSumL (tcS T L) (tvS T L) P 500 b j l' = .ok (b', j', l'') → _) ∧ (∀ p, pSumL (tcS T L) (tvS T L) P 500 b j l' = .error p → _)
    obtain ⟨io, ie⟩ := k_sumL hN hT hi ha 500 N 0 b σ2 j l' (s + b.1.length) (by omega) (by omega) (by omega) s2
    refine ⟨fun b' j' l'' hb => ?_, fun p hb => ?_⟩
    · obtain ⟨σ', r, e4, e5, s4, g4, r4⟩ := io b' j' l'' hb
      refine ⟨σ', e4, ?_, ?_, frR_trans r2 r4⟩
      · rw [e5, List.length_append, ← Nat.add_assoc]; exact s4
      · rw [e5]; exact grew_trans g2 g4
    · obtain ⟨σ', e4, t4, r4⟩ := ie p hb
      exact ⟨σ', e4, t4, frR_trans r2 r4⟩
end RP
