/-! a book is copied -/
def hdB (i : Nat) : Bool := [false, false, false, true, false, false, false, false, false, true, false, false, false, false, false, false, false, false, true, false, true, false, true, false, true, false, true, false, true, false, true, false, true, false, false, true, false, false, false].getD i false
def cpl (i : Nat) : Nat := [0, 0, 4, 3, 0, 0, 0, 0, 4, 3, 0, 0, 0, 0, 2, 0, 0, 0, 3, 0, 3, 0, 3, 0, 3, 0, 3, 0, 3, 0, 3, 0, 3, 0, 5, 3, 0, 0, 0].getD i 0
def cph (i : Nat) : Nat := [0, 0, 5, 4, 18, 24, 24, 24, 5, 4, 18, 24, 24, 24, 3, 30, 0, 6, 4, 72, 4, 36, 4, 40, 4, 30, 4, 32, 4, 16, 4, 6, 4, 12, 6, 4, 48, 400, 400].getD i 0
def apart (D S : Nat) : Prop := D + 38 < S + 2 ∨ S + 38 < D + 2
def cpR (D S : Nat) (dn : Nat → Bool) (σ0 σ : qMem) : Prop := (∀ k j, ¬ (D + 2 ≤ k ∧ k ≤ D + 38) → gi σ k j = gi σ0 k j) ∧ (∀ i j, dn i = true → i ≤ 38 → cpl i ≤ j → j < cph i → gi σ (D + i) j = gi σ0 (S + i) j) ∧ (∀ i j, j ≤ 1 → hdB i = true → gi σ (D + i) j = gi σ0 (D + i) j)
def dnA (a : Nat) (dn : Nat → Bool) (i : Nat) : Bool := decide (i = a) || dn i
section CB
variable {D S : Nat} {σ0 σ : qMem}
theorem cp_arr {dn : Nat → Bool} (hD : apart D S) (h : cpR D S dn σ0 σ) (a n : Nat) (ha : 2 ≤ a) (ha2 : a ≤ 38) (hh : hdB a = false) (hn : n ≤ 1000) (c : Int32) (hc : c = zI (n : Int)) (hA : cph a ≤ n) : cpR D S (dnA a dn) σ0 (cp σ (S + a) (D + a) 0 0 c) := by
  obtain ⟨h1, h2, h3⟩ := h
  unfold apart at hD
  have g : ∀ k j, gi (cp σ (S + a) (D + a) 0 0 c) k j = if k = D + a ∧ j < n then gi σ (S + a) j else gi σ k j := fun k j => by
    have e := gi_cp (σ := σ) (ks := S + a) (kd := D + a) (s0 := 0) (d0 := 0) (n := n) (by omega) (by omega) (by omega) (by omega) (by omega) (by omega) k j
    rw [hc]
    refine (show gi (cp σ (S + a) (D + a) 0 0 (zI (n : Int))) k j = _ from e).trans ?_
    by_cases q : k = D + a ∧ j < n
    · rw [if_pos q, if_pos (by omega)]
      congr 1
      omega
    · rw [if_neg q, if_neg (by omega)]
  refine ⟨fun k j hk => ?_, fun i j hd hi hl hp => ?_, fun i j hj hi => ?_⟩
  · rw [g, if_neg (by omega)]; exact h1 k j hk
  · rw [g]
    by_cases q : i = a
    · subst q
      rw [if_pos ⟨rfl, by omega⟩, h1 _ _ (by omega)]
    · rw [if_neg (by omega)]
      unfold dnA at hd
      rw [decide_eq_false q, Bool.false_or] at hd
      exact h2 i j hd hi hl hp
  · by_cases q : i = a
    · subst q; rw [hh] at hi; simp at hi
    · rw [g, if_neg (by omega)]; exact h3 i j hj hi
theorem cp_fld {dn : Nat → Bool} (hD : apart D S) (h : cpR D S dn σ0 σ) (a b : Nat) (x : Int32) (ha : 2 ≤ a) (ha2 : a ≤ 38) (hb : 2 ≤ b) (hx : x = gi σ (S + a) b) (hA : b ≤ cpl a) (hA2 : cph a ≤ b + 1) : cpR D S (dnA a dn) σ0 (si σ (D + a) b x) := by
  obtain ⟨h1, h2, h3⟩ := h
  unfold apart at hD
  refine ⟨fun k j hk => ?_, fun i j hd hi hl hp => ?_, fun i j hj hi => ?_⟩
  · rw [gi_si, if_neg (by omega)]; exact h1 k j hk
  · rw [gi_si]
    by_cases q : i = a
    · subst q
      have : j = b := by omega
      subst this
      rw [if_pos ⟨rfl, rfl⟩, hx, h1 _ _ (by omega)]
    · rw [if_neg (by omega)]
      unfold dnA at hd
      rw [decide_eq_false q, Bool.false_or] at hd
      exact h2 i j hd hi hl hp
  · rw [gi_si, if_neg (by omega)]; exact h3 i j hj hi
theorem cp_row {dn : Nat → Bool} (hD : apart D S) (h : cpR D S dn σ0 σ) (a n : Nat) (ha : 2 ≤ a) (ha2 : a + 1 ≤ 38) (hh : hdB a = true) (hh2 : hdB (a + 1) = false) (hn : n ≤ 1000) {mo s : Int} (hm : gi σ0 (D + a) 1 = zI mo) (hs : gi σ0 (S + a) 3 = zI s) (s0 : 0 ≤ s) (s1 : s ≤ mo) (m1 : mo ≤ 100) (hA : cph (a + 1) ≤ n) (hB : 3 ≤ cpl a) (hB2 : cph a ≤ 4) : Ho (fX8_copy (D + a) n (S + a) n σ) (cpR D S (dnA a (dnA (a + 1) dn)) σ0) := by
  unfold fX8_copy
  have mi : fJ9_min_7cf53 (nI n) (nI n) = some (zI (n : Int)) := by
    rw [nI_zI, e_min (by omega) (by omega) (by omega) (by omega), show min (n : Int) n = n by omega]
  have ok : (cpOK 0 0 (zI (n : Int)) n n = true) = True := cpOK_t (s0 := 0) (d0 := 0) (by omega) (by omega) (by omega) (by omega) (by omega) (by omega) (by omega) (by omega)
  simp only [mi, Option.bind_some, ok, if_true, nmM]
  have hc := cp_arr hD h (a + 1) n (by omega) ha2 hh2 hn (zI (n : Int)) rfl hA
  have g1 : gi (cp σ (S + a + 1) (D + a + 1) 0 0 (zI (n : Int))) (D + a) 1 = zI mo := (hc.2.2 a 1 (by omega) hh).trans hm
  have g2 : gi (cp σ (S + a + 1) (D + a + 1) 0 0 (zI (n : Int))) (S + a) 3 = zI s := (hc.1 (S + a) 3 (by unfold apart at hD; omega)).trans hs
  rw [g1, g2, e_min (by omega) (by omega) (by omega) (by omega), Option.bind_some, show min mo s = s by omega]
  exact Ho_some (cp_fld hD hc a 3 (zI s) ha (by omega) (by omega) g2.symm hB hB2)
theorem cp_boat2 {dn : Nat → Bool} (hD : apart D S) (h : cpR D S dn σ0 σ) {s : Int} (hm : gi σ0 (D + 3) 1 = zI 6) (hs : gi σ0 (S + 3) 3 = zI s) (s0 : 0 ≤ s) (s1 : s ≤ 6) : Ho (fX1_copy (D + 2) (S + 2) σ) (cpR D S (dnA 2 (dnA 7 (dnA 6 (dnA 5 (dnA 3 (dnA 4 dn)))))) σ0) := by
  unfold fX1_copy
  refine Ho_bind (cp_row hD h 3 18 (by decide) (by decide) rfl rfl (by decide) (mo := 6) hm hs s0 s1 (by decide) (by decide) (by decide) (by decide)) (fun σ1 h1 => ?_)
  have o : (cpOK 0 0 24 24 24 = true) = True := cpOK_t (s0 := 0) (d0 := 0) (n := 24) (by omega) (by omega) (by omega) (by omega) (by omega) (by omega) (by omega) (by omega)
  simp only [o, if_true, nmM]
  have h2 := cp_arr hD h1 5 24 (by decide) (by decide) rfl (by decide) 24 rfl (by decide)
  have h3 := cp_arr hD h2 6 24 (by decide) (by decide) rfl (by decide) 24 rfl (by decide)
  have h4 := cp_arr hD h3 7 24 (by decide) (by decide) rfl (by decide) 24 rfl (by decide)
  exact Ho_some (cp_fld hD h4 2 4 _ (by decide) (by decide) (by decide) rfl (by decide) (by decide))
theorem cp_boat8 {dn : Nat → Bool} (hD : apart D S) (h : cpR D S dn σ0 σ) {s : Int} (hm : gi σ0 (D + 9) 1 = zI 6) (hs : gi σ0 (S + 9) 3 = zI s) (s0 : 0 ≤ s) (s1 : s ≤ 6) : Ho (fX1_copy (D + 8) (S + 8) σ) (cpR D S (dnA 8 (dnA 13 (dnA 12 (dnA 11 (dnA 9 (dnA 10 dn)))))) σ0) := by
  unfold fX1_copy
  refine Ho_bind (cp_row hD h 9 18 (by decide) (by decide) rfl rfl (by decide) (mo := 6) hm hs s0 s1 (by decide) (by decide) (by decide) (by decide)) (fun σ1 h1 => ?_)
  have o : (cpOK 0 0 24 24 24 = true) = True := cpOK_t (s0 := 0) (d0 := 0) (n := 24) (by omega) (by omega) (by omega) (by omega) (by omega) (by omega) (by omega) (by omega)
  simp only [o, if_true, nmM]
  have h2 := cp_arr hD h1 11 24 (by decide) (by decide) rfl (by decide) 24 rfl (by decide)
  have h3 := cp_arr hD h2 12 24 (by decide) (by decide) rfl (by decide) 24 rfl (by decide)
  have h4 := cp_arr hD h3 13 24 (by decide) (by decide) rfl (by decide) 24 rfl (by decide)
  exact Ho_some (cp_fld hD h4 8 4 _ (by decide) (by decide) (by decide) rfl (by decide) (by decide))
theorem cp_law {dn : Nat → Bool} (hD : apart D S) (h : cpR D S dn σ0 σ) {s : Int} (hm : gi σ0 (D + 35) 1 = zI 12) (hs : gi σ0 (S + 35) 3 = zI s) (s0 : 0 ≤ s) (s1 : s ≤ 12) : Ho (fX5_copy (D + 34) (S + 34) σ) (cpR D S (dnA 34 (dnA 38 (dnA 37 (dnA 35 (dnA 36 dn))))) σ0) := by
  unfold fX5_copy
  refine Ho_bind (cp_row hD h 35 48 (by decide) (by decide) rfl rfl (by decide) (mo := 12) hm hs s0 s1 (by decide) (by decide) (by decide) (by decide)) (fun σ1 h1 => ?_)
  have o : (cpOK 0 0 400 400 400 = true) = True := cpOK_t (s0 := 0) (d0 := 0) (n := 400) (by omega) (by omega) (by omega) (by omega) (by omega) (by omega) (by omega) (by omega)
  simp only [o, if_true, nmM]
  have h2 := cp_arr hD h1 37 400 (by decide) (by decide) rfl (by decide) 400 rfl (by decide)
  have h3 := cp_arr hD h2 38 400 (by decide) (by decide) rfl (by decide) 400 rfl (by decide)
  exact Ho_some (cp_fld hD h3 34 5 _ (by decide) (by decide) (by decide) rfl (by decide) (by decide))
def cpA (σ0 σ' : qMem) (D S : Nat) : Prop := (∀ k j, ¬ (D + 2 ≤ k ∧ k ≤ D + 38) → gi σ' k j = gi σ0 k j) ∧ (∀ i j, i ≤ 38 → cpl i ≤ j → j < cph i → gi σ' (D + i) j = gi σ0 (S + i) j) ∧ (∀ i j, j ≤ 1 → hdB i = true → gi σ' (D + i) j = gi σ0 (D + i) j)
theorem e_bookcopy {κ : Nat → Int32} (hD : apart D S) (hbD : bookS σ0.1 D) (hk : bookK σ0.1 S κ) (hw : KW κ) (hl : ∃ s : Int, gi σ0 (S + 35) 3 = zI s ∧ 0 ≤ s ∧ s ≤ 12) : Ho (fX2_copy D S σ0) (fun σ' => cpA σ0 σ' D S) := by
  obtain ⟨t1, t2, t3, t4, t5, t6, t7, t8, t9, t10, t11, t12, t13⟩ := hk
  obtain ⟨k1, k2, k3, k4, k5, k6, k7, k8, k9, k10⟩ := hw
  obtain ⟨y1, y2, y3, y4, y5, y6, y7, y8, y9, y10, y11⟩ := hbD
  obtain ⟨sl, l1, l2, l3⟩ := hl
  have z : ∀ {k j c : Nat}, σ0.1 k j = κ c → gi σ0 k j = zI (κ c).toInt := fun h => h.trans (zI_of _).symm
  have b0 := (k1 0 (by omega) (by omega)).2.2.2.1
  have b1 := (k1 1 (by omega) (by omega)).2.2.2.1
  unfold fX2_copy
  have h0 : cpR D S (fun _ => false) σ0 σ0 := ⟨fun _ _ _ => rfl, fun _ _ hp => by simp at hp, fun _ _ _ _ => rfl⟩
  refine Ho_bind (cp_boat2 hD h0 y1.2 (z t1.2.1.1) b0.1 b0.2) (fun s1 h1 => ?_)
  refine Ho_bind (cp_boat8 hD h1 y2.2 (z t2.2.1.1) b1.1 b1.2) (fun s2 h2 => ?_)
  unfold fX10_copy
  have o30 : (cpOK 0 0 30 30 30 = true) = True := cpOK_t (s0 := 0) (d0 := 0) (n := 30) (by omega) (by omega) (by omega) (by omega) (by omega) (by omega) (by omega) (by omega)
  have o6 : (cpOK 0 0 6 6 6 = true) = True := cpOK_t (s0 := 0) (d0 := 0) (n := 6) (by omega) (by omega) (by omega) (by omega) (by omega) (by omega) (by omega) (by omega)
  simp only [o30, o6, if_true, nmM, Option.bind_some]
  have h3 := cp_arr hD h2 15 30 (by decide) (by decide) rfl (by decide) 30 rfl (by decide)
  have h4 := cp_fld hD h3 14 2 _ (by decide) (by decide) (by decide) rfl (by decide) (by decide)
  have h5 := cp_arr hD h4 17 6 (by decide) (by decide) rfl (by decide) 6 rfl (by decide)
  refine Ho_bind (cp_row hD h5 18 72 (by decide) (by decide) rfl rfl (by decide) (mo := 24) y3.2 (z t5.1) k3.1.1 k3.1.2 (by decide) (by decide) (by decide) (by decide)) (fun s6 h6 => ?_)
  refine Ho_bind (cp_row hD h6 20 36 (by decide) (by decide) rfl rfl (by decide) (mo := 12) y4.2 (z t6.1) k4.1.1 k4.1.2 (by decide) (by decide) (by decide) (by decide)) (fun s7 h7 => ?_)
  refine Ho_bind (cp_row hD h7 22 40 (by decide) (by decide) rfl rfl (by decide) (mo := 8) y5.2 (z t7.1) k5.1.1 k5.1.2 (by decide) (by decide) (by decide) (by decide)) (fun s8 h8 => ?_)
  refine Ho_bind (cp_row hD h8 24 30 (by decide) (by decide) rfl rfl (by decide) (mo := 6) y6.2 (z t8.1) k6.1.1 k6.1.2 (by decide) (by decide) (by decide) (by decide)) (fun s9 h9 => ?_)
  refine Ho_bind (cp_row hD h9 26 32 (by decide) (by decide) rfl rfl (by decide) (mo := 8) y7.2 (z t9.1) k7.1.1 k7.1.2 (by decide) (by decide) (by decide) (by decide)) (fun s10 h10 => ?_)
  refine Ho_bind (cp_row hD h10 28 16 (by decide) (by decide) rfl rfl (by decide) (mo := 8) y8.2 (z t10.1) k8.1.1 k8.1.2 (by decide) (by decide) (by decide) (by decide)) (fun s11 h11 => ?_)
  refine Ho_bind (cp_row hD h11 30 6 (by decide) (by decide) rfl rfl (by decide) (mo := 6) y9.2 (z t11.1) k9.1.1 k9.1.2 (by decide) (by decide) (by decide) (by decide)) (fun s12 h12 => ?_)
  refine Ho_bind (cp_row hD h12 32 12 (by decide) (by decide) rfl rfl (by decide) (mo := 6) y10.2 (z t12.1) k10.1.1 k10.1.2 (by decide) (by decide) (by decide) (by decide)) (fun s13 h13 => ?_)
  refine Ho_bind (cp_law hD h13 y11.2 l1 l2 l3) (fun s14 h14 => ?_)
  have all : ∀ i : Fin 39, cpl i.val < cph i.val → dnA 34 (dnA 38 (dnA 37 (dnA 35 (dnA 36 (dnA 32 (dnA 33 (dnA 30 (dnA 31 (dnA 28 (dnA 29 (dnA 26 (dnA 27 (dnA 24 (dnA 25 (dnA 22 (dnA 23 (dnA 20 (dnA 21 (dnA 18 (dnA 19 (dnA 17 (dnA 14 (dnA 15 (dnA 8 (dnA 13 (dnA 12 (dnA 11 (dnA 9 (dnA 10 (dnA 2 (dnA 7 (dnA 6 (dnA 5 (dnA 3 (dnA 4 (fun _ => false)))))))))))))))))))))))))))))))))))) i.val = true := by decide
  exact Ho_some ⟨h14.1, fun i j hi hl hp => h14.2.1 i j (all ⟨i, by omega⟩ (by show cpl i < cph i; omega)) hi hl hp, h14.2.2⟩
end CB
theorem bookK_t {m m' : Nat → Nat → Int32} {D S : Nat} {κ κ' : Nat → Int32} (h : ∀ i j, i ≤ 38 → cpl i ≤ j → j < cph i → m' (D + i) j = m (S + i) j) (e : ∀ j, j < 1112 → κ' j = κ j) (hw : KW κ) (hk : bookK m S κ) : bookK m' D κ' := by
  obtain ⟨t1, t2, t3, t4, t5, t6, t7, t8, t9, t10, t11, t12, t13⟩ := hk
  have k1 := hw.1
  have s44 : same44 κ κ' := fun j hj => e j (by omega)
  have row : ∀ (r n base cnt : Nat), r + 1 ≤ 38 → cpl (r + 1) = 0 → n ≤ cph (r + 1) → cpl r ≤ 3 → 3 < cph r → base + n ≤ 1112 → cnt < 1112 → rowE m (S + r) n κ base cnt → rowE m' (D + r) n κ' base cnt := by
    intro r n base cnt hr h0 hn h3 h4 hb hcn ⟨u1, u2⟩
    refine ⟨?_, fun j hj => ?_⟩
    · rw [h r 3 (by omega) h3 h4, e _ hcn]; exact u1
    · show m' (D + r + 1) j = _
      rw [show D + r + 1 = D + (r + 1) by omega, h (r + 1) j hr (by omega) (by omega), e _ (by omega)]
      exact u2 j hj
  have bt0 : boatT m' (D + 2) κ' 0 := by
    obtain ⟨u1, u2, u3⟩ := t1
    refine ⟨?_, row 3 18 (22 * 0 + 4) (22 * 0 + 3) (by decide) rfl (by decide) (by decide) (by decide) (by decide) (by decide) u2, fun j hj => ?_⟩
    · rw [h 2 4 (by decide) (by decide) (by decide), u1, e _ (by decide)]
    · have a1 : m' (D + 5) j = m (S + 5) j := h 5 j (by decide) (Nat.zero_le _) hj
      have a2 : m' (D + 6) j = m (S + 6) j := h 6 j (by decide) (Nat.zero_le _) hj
      have a3 : m' (D + 7) j = m (S + 7) j := h 7 j (by decide) (Nat.zero_le _) hj
      show m' (D + 5) j = _ ∧ m' (D + 6) j = _ ∧ m' (D + 7) j = _
      rw [a1, a2, a3, pos_4 s44 k1 (by omega) (by omega) (Or.inl rfl), pos_4 s44 k1 (by omega) (by omega) (Or.inr rfl), spd_4 s44 k1 (by omega) (by omega)]
      exact u3 j hj
  have bt1 : boatT m' (D + 8) κ' 1 := by
    obtain ⟨u1, u2, u3⟩ := t2
    refine ⟨?_, row 9 18 (22 * 1 + 4) (22 * 1 + 3) (by decide) rfl (by decide) (by decide) (by decide) (by decide) (by decide) u2, fun j hj => ?_⟩
    · rw [h 8 4 (by decide) (by decide) (by decide), u1, e _ (by decide)]
    · have a1 : m' (D + 11) j = m (S + 11) j := h 11 j (by decide) (Nat.zero_le _) hj
      have a2 : m' (D + 12) j = m (S + 12) j := h 12 j (by decide) (Nat.zero_le _) hj
      have a3 : m' (D + 13) j = m (S + 13) j := h 13 j (by decide) (Nat.zero_le _) hj
      show m' (D + 11) j = _ ∧ m' (D + 12) j = _ ∧ m' (D + 13) j = _
      rw [a1, a2, a3, pos_4 s44 k1 (by omega) (by omega) (Or.inl rfl), pos_4 s44 k1 (by omega) (by omega) (Or.inr rfl), spd_4 s44 k1 (by omega) (by omega)]
      exact u3 j hj
  refine ⟨bt0, bt1, ⟨?_, fun j hj => ?_⟩, fun j hj => ?_, ?_, ?_, ⟨?_, fun w hw' => ?_⟩, ?_, ?_, ?_, ?_, ?_, ?_⟩
  · rw [h 14 2 (by decide) (by decide) (by decide), e _ (by decide)]; exact t3.1
  · rw [h 15 j (by decide) (Nat.zero_le _) hj, e _ (by omega)]; exact t3.2 j hj
  · rw [h 17 j (by decide) (Nat.zero_le _) hj, e _ (by omega)]; exact t4 j hj
  · exact row 18 72 80 300 (by decide) rfl (by decide) (by decide) (by decide) (by decide) (by decide) t5
  · exact row 20 36 152 301 (by decide) rfl (by decide) (by decide) (by decide) (by decide) (by decide) t6
  · rw [h 22 3 (by decide) (by decide) (by decide), e _ (by decide)]; exact t7.1
  · have e2 : kI κ' 302 = kI κ 302 := kI_e (e _ (by decide))
    have b := hw.2.2.2.2.1.1
    rw [e2] at hw'
    have a : ∀ j, j < 40 → m' (D + 23) j = m (S + 23) j := fun j hj => h 23 j (by decide) (Nat.zero_le _) hj
    rw [a _ (by omega), a _ (by omega), a _ (by omega), a _ (by omega), a _ (by omega), e (188 + 2 * w) (by omega), e (188 + 2 * w + 1) (by omega)]
    exact t7.2 w hw'
  · exact row 24 30 238 308 (by decide) rfl (by decide) (by decide) (by decide) (by decide) (by decide) t8
  · exact row 26 32 268 309 (by decide) rfl (by decide) (by decide) (by decide) (by decide) (by decide) t9
  · exact row 28 16 204 303 (by decide) rfl (by decide) (by decide) (by decide) (by decide) (by decide) t10
  · exact row 30 6 220 304 (by decide) rfl (by decide) (by decide) (by decide) (by decide) (by decide) t11
  · exact row 32 12 226 305 (by decide) rfl (by decide) (by decide) (by decide) (by decide) (by decide) t12
  · rw [h 35 3 (by decide) (by decide) (by decide), e _ (by decide)]; exact t13
theorem KW_t {κ κ' : Nat → Int32} (e : ∀ j, j < 1112 → κ' j = κ j) (hw : KW κ) : KW κ' := by
  obtain ⟨k1, k2, k3, k4, k5, k6, k7, k8, k9, k10⟩ := hw
  exact ⟨KB_k (fun j hj => e j (by omega)) k1, KT_k (fun j hj => e j (by omega)) k2, KH_k (fun j hj => e j (by omega)) k3, KE_k (fun j hj => e j (by omega)) k4, KR_k (fun j hj => e j (by omega)) k5, KS_k (fun j hj => e j (by omega)) k6, KG_k (fun j hj => e j (by omega)) k7, KO_k (fun j hj => e j (by omega)) k8, KP_k (fun j hj => e j (by omega)) k9, KC_k (fun j hj => e j (by omega)) k10⟩
theorem LW_t {LW : LWt} {m m' : Nat → Nat → Int32} {D S : Nat} {κ κ' : Nat → Int32} (hLW : LWc LW) (h : ∀ i j, i ≤ 38 → cpl i ≤ j → j < cph i → m' (D + i) j = m (S + i) j) (e : ∀ j, j < 1112 → κ' j = κ j) (hl : LW m S κ) : LW m' D κ' :=
  hLW _ _ _ _ _ _ ⟨h 34 5 (by decide) (by decide) (by decide), h 35 3 (by decide) (by decide) (by decide), fun j hj => h 36 j (by decide) (Nat.zero_le _) hj, fun j hj => h 37 j (by decide) (Nat.zero_le _) hj, fun j hj => h 38 j (by decide) (Nat.zero_le _) hj⟩ (fun j _ hj => e j hj) hl
theorem bookS_t {m m' : Nat → Nat → Int32} {D : Nat} (h : ∀ i j, j ≤ 1 → hdB i = true → m' (D + i) j = m (D + i) j) : bookS m' D = bookS m D := by
  unfold bookS rowS
  rw [h 3 0 (by decide) rfl, h 3 1 (by decide) rfl, h 9 0 (by decide) rfl, h 9 1 (by decide) rfl, h 18 0 (by decide) rfl, h 18 1 (by decide) rfl, h 20 0 (by decide) rfl, h 20 1 (by decide) rfl, h 22 0 (by decide) rfl, h 22 1 (by decide) rfl, h 24 0 (by decide) rfl, h 24 1 (by decide) rfl, h 26 0 (by decide) rfl, h 26 1 (by decide) rfl, h 28 0 (by decide) rfl, h 28 1 (by decide) rfl, h 30 0 (by decide) rfl, h 30 1 (by decide) rfl, h 32 0 (by decide) rfl, h 32 1 (by decide) rfl, h 35 0 (by decide) rfl, h 35 1 (by decide) rfl]
theorem clauses_rng {m : Nat → Nat → Int32} {B : Nat} {κ : Nat → Int32} (h : LWd m B κ) : ∃ s : Int, m (B + 35) 3 = zI s ∧ 0 ≤ s ∧ s ≤ 12 := by
  obtain ⟨cl, h1, h2, h3, h4, h5, h6⟩ := h
  refine ⟨(cl.length : Nat), ?_, by omega, by omega⟩
  have := h5.1
  rw [lawR_len] at this
  exact this
