/-! who may be next: all are joined -/
def roR (R H : Nat) (σ τ : qMem) : Prop := (∀ i, i < 24 → gi σ R i = gi τ 10 i) ∧ (∀ i k, i < 24 → k < 24 → (H ≤ k ∨ H ≤ i) → bt (gi τ 10 i) k = false) ∧ gi τ 2 300 = zI H
theorem e_noRow {N R i p D : Nat} {σ : qMem} (hN : 200000 ≤ N) (hi : i < 24) (hp : p ≤ 24) (h : ∀ k, k < 24 → bt (gi σ R i) k = false) : fX4_joinOne N (D + 1) R (zI i) (zI p) σ = some (0, σ) := by
  show fX4_joinOne_e N _ R (zI i) (zI p) σ = _
  unfold fX4_joinOne_e
  have c1 : (zI i < 0) = False := by rw [show (0 : Int32) = zI 0 from rfl, zI_lt (by omega) (by omega) (by omega) (by omega)]; exact eq_false (by omega)
  have c2 : (24 ≤ zI i) = False := by rw [show (24 : Int32) = zI 24 from rfl, zI_le (by omega) (by omega) (by omega) (by omega)]; exact eq_false (by omega)
  have c3 : (zI p ≤ 24) = True := by rw [show (24 : Int32) = zI 24 from rfl, zI_le (by omega) (by omega) (by omega) (by omega)]; exact eq_true (by omega)
  simp only [c1, c2, c3, if_false, if_true]
  have ki : (ck (zI i) 24 = true) = True := zI_ckT (by omega) (by omega) (by omega)
  have zi : (zI i).toNatClampNeg = i := by rw [zI_clamp (by omega) (by omega)]; omega
  have loop : ∀ (d k f : Nat), k + d = 24 → d < f → fX4_joinOne_l21 N (fX4_joinOne N D) R f (zI i) (zI p) (zI k) σ = some (0, σ) := by
    intro d
    induction d with
    | zero =>
      intro k f hk hf
      obtain ⟨f, rfl⟩ : ∃ x, f = x + 1 := ⟨f - 1, by omega⟩
      have : k = 24 := by omega
      subst this
      show fX4_joinOne_s21 N _ R _ (zI i) (zI p) (zI (24 : Nat)) σ = _
      unfold fX4_joinOne_s21
      rw [if_pos (by decide)]
    | succ d ih =>
      intro k f hk hf
      obtain ⟨f, rfl⟩ : ∃ x, f = x + 1 := ⟨f - 1, by omega⟩
      show fX4_joinOne_s21 N _ R _ (zI i) (zI p) (zI k) σ = _
      unfold fX4_joinOne_s21 fX4_joinOne_b98
      have c24 : (24 ≤ zI k) = False := by rw [show (24 : Int32) = zI 24 from rfl, zI_le (by omega) (by omega) (by omega) (by omega)]; exact eq_false (by omega)
      have tC : (((gi σ R i) &&& ((gi σ 73 4) ^^^ (-1))) &&& ((1 : Int32) <<< (zI k &&& 31)) = 0) = True := by
        rw [t_and1 (by omega), bt_nand (by omega), h k (by omega)]
        exact eq_true rfl
      simp only [c24, if_false, ki, zi, if_true, tC]
      rw [show zI k + 1 = zI ((k + 1 : Nat) : Int) by rw [show (1 : Int32) = zI 1 from rfl, zI_add]; rfl]
      exact ih (k + 1) f (by omega) (by omega)
  exact loop 24 0 N (by omega) (by omega)
theorem sim_join {N R H : Nat} {σ τ : qMem} (hN : 200000 ≤ N) (hR : R = 74 ∨ R = 75) (hH : H ≤ 24) (h : roR R H σ τ) : ∃ (v : Nat) (σ' τ' : qMem), v ≤ 24 ∧ fX4_join N R σ = some (zI v, σ') ∧ fX12_joins N τ = some (zI v, τ') ∧ jfC σ σ' ∧ jfM τ τ' := by
  obtain ⟨h1, h2, h3⟩ := h
  -- the class clears
  obtain ⟨σ0, e0, g0⟩ := Ho_get (e_fill (N := N) (k0 := 76) (n0 := 24) (v := -1) (σ := σ) hN (by omega))
  -- the reference clears
  have clr : ∀ (d i f : Nat) (t : qMem), i + d = 24 → d < f → (∀ k j, gi t k j = if (k = 11 ∨ k = 12) ∧ j < i then -1 else gi τ k j) → ∃ t', fX12_joins_l2 N f (zI i) t = fX12_joins_l32 N N 0 0 t' ∧ ∀ k j, gi t' k j = if (k = 11 ∨ k = 12) ∧ j < 24 then -1 else gi τ k j := by
    intro d
    induction d with
    | zero =>
      intro i f t hi hf ht
      obtain ⟨f, rfl⟩ : ∃ x, f = x + 1 := ⟨f - 1, by omega⟩
      have : i = 24 := by omega
      subst this
      refine ⟨t, ?_, ht⟩
      show fX12_joins_s2 N _ (zI (24 : Nat)) t = _
      unfold fX12_joins_s2
      rw [if_pos (by decide)]
    | succ d ih =>
      intro i f t hi hf ht
      obtain ⟨f, rfl⟩ : ∃ x, f = x + 1 := ⟨f - 1, by omega⟩
      show ∃ t', fX12_joins_s2 N (fX12_joins_l2 N f) (zI i) t = _ ∧ _
      unfold fX12_joins_s2
      have c24 : (24 ≤ zI i) = False := by rw [show (24 : Int32) = zI 24 from rfl, zI_le (by omega) (by omega) (by omega) (by omega)]; exact eq_false (by omega)
      have ki : (ck (zI i) 24 = true) = True := zI_ckT (by omega) (by omega) (by omega)
      have zi : (zI i).toNatClampNeg = i := by rw [zI_clamp (by omega) (by omega)]; omega
      simp only [c24, if_false, ki, zi, if_true, nmM]
      rw [show zI i + 1 = zI ((i + 1 : Nat) : Int) by rw [show (1 : Int32) = zI 1 from rfl, zI_add]; rfl]
      refine ih (i + 1) f _ (by omega) (by omega) (fun k j => ?_)
      rw [gi_si, gi_si]
      by_cases q : (k = 11 ∨ k = 12) ∧ j = i
      · rw [if_pos (show (k = 11 ∨ k = 12) ∧ j < i + 1 by omega)]
        rcases q.1 with z | z
        · rw [if_neg (by omega), if_pos ⟨z, q.2⟩]
        · rw [if_pos ⟨z, q.2⟩]
      · rw [if_neg (by omega), if_neg (by omega), ht]
        by_cases q2 : (k = 11 ∨ k = 12) ∧ j < i
        · rw [if_pos q2, if_pos (by omega)]
        · rw [if_neg q2, if_neg (by omega)]
  obtain ⟨τ0, f0, k0⟩ := clr 24 0 N τ (by omega) (by omega) (fun k j => by rw [if_neg (by omega)])
  have f0' : fX12_joins N τ = fX12_joins_l32 N N 0 0 τ0 := f0
  unfold fX4_join
  rw [e0, Option.bind_some, f0']
  -- what is kept of the rows
  have rw1 : ∀ s t : qMem, jfC σ s → jfM τ t → roR R H s t := fun s t fc fm => ⟨fun i hi => by rw [fc _ _ (by omega), fm _ _ (by omega)]; exact h1 i hi, fun i k hi hk hh => by rw [fm _ _ (by omega)]; exact h2 i k hi hk hh, by rw [fm _ _ (by omega)]; exact h3⟩
  have fc0 : jfC σ σ0 := fun k j hk => by rw [g0, if_neg (by omega)]
  have fm0 : jfM τ τ0 := fun k j hk => by rw [k0, if_neg (by omega)]
  have ah0 : ∀ k, k < 24 → gi σ0 76 k = gi τ0 12 k ∧ (gi τ0 12 k = -1 ∨ ∃ a : Nat, a < 24 ∧ gi τ0 12 k = zI a) := fun k hk => by
    rw [g0, if_pos ⟨rfl, hk⟩, k0, if_pos ⟨Or.inr rfl, hk⟩]
    exact ⟨rfl, Or.inl rfl⟩
  -- the class's way past the last one heard
  have tail : ∀ (d i f : Nat) (v : Nat) (s : qMem), i + d = 24 → H ≤ i → d < f → jfC σ s → ∃ s', fX4_join_l12 N R f (zI v) (zI i) s = some (zI v, s') ∧ jfC σ s' := by
    intro d
    induction d with
    | zero =>
      intro i f v s hi hH' hf fc
      obtain ⟨f, rfl⟩ : ∃ x, f = x + 1 := ⟨f - 1, by omega⟩
      have : i = 24 := by omega
      subst this
      refine ⟨s, ?_, fc⟩
      show fX4_join_s12 N R _ (zI v) (zI (24 : Nat)) s = _
      unfold fX4_join_s12
      rw [if_pos (by decide)]
    | succ d ih =>
      intro i f v s hi hH' hf fc
      obtain ⟨f, rfl⟩ : ∃ x, f = x + 1 := ⟨f - 1, by omega⟩
      show ∃ s', fX4_join_s12 N R (fX4_join_l12 N R f) (zI v) (zI i) s = _ ∧ _
      unfold fX4_join_s12 fX4_join_b36
      have c24 : (24 ≤ zI i) = False := by rw [show (24 : Int32) = zI 24 from rfl, zI_le (by omega) (by omega) (by omega) (by omega)]; exact eq_false (by omega)
      have fc1 : jfC σ (si s 73 4 0) := fun k j hk => by rw [gi_si, if_neg (by omega)]; exact fc k j hk
      have e1 : fX4_joinOne N 26 R (zI i) 0 (si s 73 4 0) = some (0, si s 73 4 0) := e_noRow (p := 0) (D := 25) hN (by omega) (by omega) (fun k hk => by rw [fc1 _ _ (by omega), h1 i (by omega)]; exact h2 i k (by omega) hk (Or.inr hH'))
      simp only [c24, if_false, nmM, e1, Option.bind_some, if_true]
      rw [show zI i + 1 = zI ((i + 1 : Nat) : Int) by rw [show (1 : Int32) = zI 1 from rfl, zI_add]; rfl]
      exact ih (i + 1) f v _ (by omega) (by omega) (by omega) fc1
  have main : ∀ (d i f g : Nat) (v : Nat) (s t : qMem), i + d = H → v ≤ i → d + (24 - H) < f → d < g → jfC σ s → jfM τ t → (∀ k, k < 24 → gi s 76 k = gi t 12 k ∧ (gi t 12 k = -1 ∨ ∃ a : Nat, a < 24 ∧ gi t 12 k = zI a)) → ∃ (w : Nat) (s' t' : qMem), w ≤ 24 ∧ fX4_join_l12 N R f (zI v) (zI i) s = some (zI w, s') ∧ fX12_joins_l32 N g (zI v) (zI i) t = some (zI w, t') ∧ jfC σ s' ∧ jfM τ t' := by
    intro d
    induction d with
    | zero =>
      intro i f g v s t hi hv hf hg fc fm ha
      have : i = H := by omega
      subst this
      obtain ⟨s', e1, fc'⟩ := tail (24 - i) i f v s (by omega) (Nat.le_refl _) (by omega) fc
      obtain ⟨g, rfl⟩ : ∃ x, g = x + 1 := ⟨g - 1, by omega⟩
      refine ⟨v, s', t, by omega, e1, ?_, fc', fm⟩
      show fX12_joins_s32 N _ (zI v) (zI i) t = _
      unfold fX12_joins_s32
      have c1 : (zI i ≤ zI i) = True := by rw [zI_le (by omega) (by omega) (by omega) (by omega)]; exact eq_true (by omega)
      rw [if_pos (by decide), show (300 : Int32).toNatClampNeg = 300 from rfl, fm _ _ (by omega), h3]
      simp only [c1, if_true]
    | succ d ih =>
      intro i f g v s t hi hv hf hg fc fm ha
      obtain ⟨f, rfl⟩ : ∃ x, f = x + 1 := ⟨f - 1, by omega⟩
      obtain ⟨g, rfl⟩ : ∃ x, g = x + 1 := ⟨g - 1, by omega⟩
      have c24 : (24 ≤ zI i) = False := by rw [show (24 : Int32) = zI 24 from rfl, zI_le (by omega) (by omega) (by omega) (by omega)]; exact eq_false (by omega)
      have cH : (zI H ≤ zI i) = False := by rw [zI_le (by omega) (by omega) (by omega) (by omega)]; exact eq_false (by omega)
      have fc1 : jfC σ (si s 73 4 0) := fun k j hk => by rw [gi_si, if_neg (by omega)]; exact fc k j hk
      have fm1 : jfM τ (si t 0 20 0) := fun k j hk => by rw [gi_si, if_neg (by omega)]; exact fm k j hk
      obtain ⟨r1, r2, r3⟩ := rw1 _ _ fc1 fm1
      have js : jsR R H (si s 73 4 0) (si t 0 20 0) := ⟨r1, fun a b ha' hb hb2 => r2 a b ha' hb2 (Or.inl hb), fun k hk => by rw [gi_si, if_neg (by omega), gi_si, if_neg (by omega)]; exact ha k hk, by rw [gi_si, if_pos ⟨rfl, rfl⟩, gi_si, if_pos ⟨rfl, rfl⟩], r3⟩
      obtain ⟨x, s2, t2, x1, x2, x3, x4, x5, x6, x7⟩ := sim_one hN hR hH 24 0 26 26 i _ _ (by omega) (by omega) (by omega) (by omega) (by omega) js
      have x1' : fX4_joinOne N 26 R (zI i) 0 (si s 73 4 0) = some (x, s2) := x1
      have nx : zI i + 1 = zI ((i + 1 : Nat) : Int) := by rw [show (1 : Int32) = zI 1 from rfl, zI_add]; rfl
      have g300 : gi t 2 300 = zI H := (fm _ _ (by omega)).trans h3
      have eC : fX4_join_l12 N R (f + 1) (zI v) (zI i) s = if x = 0 then fX4_join_l12 N R f (zI v) (zI ((i + 1 : Nat) : Int)) s2 else fX4_join_l12 N R f (zI v + 1) (zI ((i + 1 : Nat) : Int)) s2 := by
        show fX4_join_s12 N R _ (zI v) (zI i) s = _
        unfold fX4_join_s12 fX4_join_b36
        simp only [c24, if_false, nmM, x1', Option.bind_some, nx]
      have eM : fX12_joins_l32 N (g + 1) (zI v) (zI i) t = if x = 0 then fX12_joins_l32 N g (zI v + 0) (zI ((i + 1 : Nat) : Int)) t2 else fX12_joins_l32 N g (zI v + 1) (zI ((i + 1 : Nat) : Int)) t2 := by
        show fX12_joins_s32 N _ (zI v) (zI i) t = _
        unfold fX12_joins_s32 fX12_joins_b63
        rw [if_pos (by decide), show (300 : Int32).toNatClampNeg = 300 from rfl, g300]
        simp only [cH, if_false, nmM, x2, Option.bind_some, nx]
      rw [eC, eM]
      rcases x3 with z | z
      · rw [if_pos z, if_pos z, show zI v + 0 = zI v from Int32.add_zero _]
        exact ih (i + 1) f g v s2 t2 (by omega) (by omega) (by omega) (by omega) (jfC_t fc1 x5) (jfM_t fm1 x6) x4.2.2.1
      · rw [if_neg (by rw [z]; exact n10), if_neg (by rw [z]; exact n10), show zI v + 1 = zI ((v + 1 : Nat) : Int) by rw [show (1 : Int32) = zI 1 from rfl, zI_add]; rfl]
        exact ih (i + 1) f g (v + 1) s2 t2 (by omega) (by omega) (by omega) (by omega) (jfC_t fc1 x5) (jfM_t fm1 x6) x4.2.2.1
  obtain ⟨w, s', t', w1, w2, w3, w4, w5⟩ := main H 0 N N 0 σ0 τ0 (by omega) (by omega) (by omega) (by omega) fc0 fm0 ah0
  exact ⟨w, s', t', w1, w2, w3, w4, w5⟩
