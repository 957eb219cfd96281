/-! pairings: the reference goes through all -/
def enF (t0 t : qMem) : Prop := ∀ k j, k ≠ 15 → k ≠ 16 → gi t k j = gi t0 k j
/-- the digits of one -/
theorem r_dig {N n : Nat} {C : Nat → Nat → Bool} {c152 : Int32 → Int32 → Int32 → Int32 → qMem → Option (Int32 × qMem)} {v3 v4 v5 : Int32} (hN : 200000 ≤ N) (hn0 : 0 < n) (hn : n ≤ 6) : ∀ (r i f c : Nat) (ok : Bool) (T : Nat → Bool) (u : Int32) (t : qMem), i + r = n → r < f → c < 100000 → (∀ k, k < n → bt u k = T k) → (∀ a b, a < n → b < n → bt (gi t 14 a) b = C a b) → ∃ t', fX12_pairs_l171 N c152 f (zI n) v3 v4 v5 (zI c) u (bI ok) (zI i) t = (if (ok && gdc n C r i T c) = false then c152 (zI n) v3 v4 (v5 + 1) t' else fX12_pairs_l276 N c152 N (zI n) v3 (v4 + 1) v5 0 t') ∧ (∀ a b, gi t' a b = if a = 16 ∧ i ≤ b ∧ b < n then zI (dgt n c (b - i) : Nat) else gi t a b) := by
  intro r
  induction r with
  | zero =>
    intro i f c ok T u t hi hf hc hu hC
    obtain ⟨f, rfl⟩ : ∃ x, f = x + 1 := ⟨f - 1, by omega⟩
    refine ⟨t, ?_, fun a b => by rw [if_neg (by omega)]⟩
    show fX12_pairs_s171 N c152 _ (zI n) v3 v4 v5 (zI c) u (bI ok) (zI i) t = _
    unfold fX12_pairs_s171 fX12_pairs_b310
    have c1 : (zI (n : Int) ≤ zI (i : Int)) = True := by rw [zI_le (by omega) (by omega) (by omega) (by omega)]; exact eq_true (by omega)
    simp only [c1, if_true, bI_0]
    rw [show (ok && gdc n C 0 i T c) = ok by cases ok <;> rfl]
  | succ r ih =>
    intro i f c ok T u t hi hf hc hu hC
    obtain ⟨f, rfl⟩ : ∃ x, f = x + 1 := ⟨f - 1, by omega⟩
    show ∃ t', fX12_pairs_s171 N c152 _ (zI n) v3 v4 v5 (zI c) u (bI ok) (zI i) t = _ ∧ _
    unfold fX12_pairs_s171 fX12_pairs_b239 fX12_pairs_b240
    have c1 : (zI (n : Int) ≤ zI (i : Int)) = False := by rw [zI_le (by omega) (by omega) (by omega) (by omega)]; exact eq_false (by omega)
    have c0 : (zI (n : Int) = 0) = False := by rw [show (0 : Int32) = zI 0 from rfl, zI_eq (by omega) (by omega) (by omega) (by omega)]; exact eq_false (by omega)
    have ki : (ck (zI (i : Int)) 6 = true) = True := zI_ckT (by omega) (by omega) (by omega)
    have zi : (zI (i : Int)).toNatClampNeg = i := by rw [zI_clamp (by omega) (by omega)]; omega
    have em : irm (zI (c : Int)) (zI (n : Int)) = zI ((c % n : Nat) : Int) := by rw [zI_rem (by omega) (by omega) (by omega) (by omega)]; rfl
    have ed : zI (c : Int) / zI (n : Int) = zI ((c / n : Nat) : Int) := by rw [zI_divp (by omega) (by omega) (by omega) (by omega)]; rfl
    have dn : c % n < n := Nat.mod_lt _ hn0
    have dl : c / n ≤ c := Nat.div_le_self _ _
    have ni : zI (i : Int) + 1 = zI ((i + 1 : Nat) : Int) := by rw [show (1 : Int32) = zI 1 from rfl, zI_add]; rfl
    rw [em, ed]
    obtain ⟨d, hd⟩ : ∃ d, c % n = d := ⟨_, rfl⟩
    rw [hd] at dn
    rw [hd]
    simp only [c1, c0, if_false, ki, zi, if_true, nmM, nmI, ni]
    generalize ht1 : si t 16 i (zI (d : Nat)) = t1
    have g1 : ∀ a b, gi t1 a b = if a = 16 ∧ b = i then zI (d : Nat) else gi t a b := fun a b => by rw [← ht1, gi_si]
    have g16 : gi t1 16 i = zI (d : Nat) := by rw [g1, if_pos ⟨rfl, rfl⟩]
    have g14 : ∀ b, gi t1 14 b = gi t 14 b := fun b => by rw [g1, if_neg (by omega)]
    have nx : ∀ w : Bool, w = (ok && (C i d && !T d)) → ∃ t', fX12_pairs_l171 N c152 f (zI n) v3 v4 v5 (zI ((c / n : Nat) : Int)) (u ||| ((1 : Int32) <<< (zI (d : Nat) &&& 31))) (bI w) (zI ((i + 1 : Nat) : Int)) t1 = (if (ok && gdc n C (r + 1) i T c) = false then c152 (zI n) v3 v4 (v5 + 1) t' else fX12_pairs_l276 N c152 N (zI n) v3 (v4 + 1) v5 0 t') ∧ (∀ a b, gi t' a b = if a = 16 ∧ i ≤ b ∧ b < n then zI (dgt n c (b - i) : Nat) else gi t a b) := by
      intro w hw
      obtain ⟨t', e1, e2⟩ := ih (i + 1) f (c / n) w (upB T d true) (u ||| ((1 : Int32) <<< (zI (d : Nat) &&& 31))) t1 (by omega) (by omega) (by omega) (fun x hx => by
            rw [bt_or1 (by omega) (by omega), hu x hx]
            unfold upB
            by_cases z : x = d
            · rw [if_pos z, decide_eq_true z, Bool.or_true]
            · rw [if_neg z, decide_eq_false z, Bool.or_false]) (fun a b ha hb => by rw [g14]; exact hC a b ha hb)
      refine ⟨t', ?_, fun a b => ?_⟩
      · rw [e1]
        have : (ok && gdc n C (r + 1) i T c) = (w && gdc n C r (i + 1) (upB T d true) (c / n)) := by
          show (ok && ((C i (c % n) && !T (c % n)) && gdc n C r (i + 1) (upB T (c % n) true) (c / n))) = _
          rw [hd, hw]
          cases ok <;> cases C i d <;> cases T d <;> rfl
        rw [this]
      · rw [e2, g1]
        by_cases q : a = 16 ∧ i ≤ b ∧ b < n
        · rw [if_pos q]
          by_cases z : b = i
          · rw [if_neg (by omega), if_pos ⟨q.1, z⟩, z, Nat.sub_self, dgt_0, hd]
          · rw [if_pos (by omega), ← dgt_s, show b - (i + 1) + 1 = b - i by omega]
        · rw [if_neg q, if_neg (by omega), if_neg (by omega)]
    simp only [g16, g14, bI_0, t_sh1 (show d < 32 by omega), bI_1, hC i d (by omega) dn, hu d dn]
    cases ok with
    | false => rw [if_pos rfl]; exact nx false (by rfl)
    | true =>
      rw [if_neg (by decide)]
      cases hc1 : C i d with
      | false => rw [if_neg (by decide)]; exact nx false (by rw [hc1]; rfl)
      | true =>
        rw [if_pos rfl]
        cases hc2 : T d with
        | true => rw [if_neg (by decide)]; exact nx false (by rw [hc1, hc2]; rfl)
        | false => rw [if_pos rfl]; exact nx true (by rw [hc1, hc2]; rfl)
/-- one more in the cells of its pairs -/
theorem r_cell {N n c : Nat} {c152 : Int32 → Int32 → Int32 → Int32 → qMem → Option (Int32 × qMem)} {v3 v4 v5 : Int32} {t : qMem} (hn0 : 0 < n) (hn : n ≤ 6) (h16 : ∀ i, i < n → gi t 16 i = zI (dgt n c i : Nat)) : ∀ (d i f : Nat) (u : qMem), i + d = n → d < f → (∀ a b, a ≠ 15 → gi u a b = gi t a b) → (∀ a b, a < n → b < n → gi u 15 (6 * a + b) = gi t 15 (6 * a + b) + (if a < i ∧ dgt n c a = b then 1 else 0)) → ∃ t', fX12_pairs_l276 N c152 f (zI n) v3 v4 v5 (zI i) u = c152 (zI n) v3 v4 (v5 + 1) t' ∧ (∀ a b, a ≠ 15 → gi t' a b = gi t a b) ∧ (∀ a b, a < n → b < n → gi t' 15 (6 * a + b) = gi t 15 (6 * a + b) + (if dgt n c a = b then 1 else 0)) := by
  intro d
  induction d with
  | zero =>
    intro i f u hi hf hu1 hu2
    obtain ⟨f, rfl⟩ : ∃ x, f = x + 1 := ⟨f - 1, by omega⟩
    refine ⟨u, ?_, hu1, fun a b ha hb => ?_⟩
    · show fX12_pairs_s276 N c152 _ (zI n) v3 v4 v5 (zI i) u = _
      unfold fX12_pairs_s276 fX12_pairs_b310
      have c1 : (zI (n : Int) ≤ zI (i : Int)) = True := by rw [zI_le (by omega) (by omega) (by omega) (by omega)]; exact eq_true (by omega)
      simp only [c1, if_true]
    · rw [hu2 a b ha hb]
      congr 1
      by_cases z : dgt n c a = b
      · rw [if_pos z, if_pos ⟨by omega, z⟩]
      · rw [if_neg z, if_neg (fun y => z y.2)]
  | succ d ih =>
    intro i f u hi hf hu1 hu2
    obtain ⟨f, rfl⟩ : ∃ x, f = x + 1 := ⟨f - 1, by omega⟩
    show ∃ t', fX12_pairs_s276 N c152 _ (zI n) v3 v4 v5 (zI i) u = _ ∧ _
    unfold fX12_pairs_s276
    have c1 : (zI (n : Int) ≤ zI (i : Int)) = False := by rw [zI_le (by omega) (by omega) (by omega) (by omega)]; exact eq_false (by omega)
    have ki : (ck (zI (i : Int)) 6 = true) = True := zI_ckT (by omega) (by omega) (by omega)
    have zi : (zI (i : Int)).toNatClampNeg = i := by rw [zI_clamp (by omega) (by omega)]; omega
    have dn : dgt n c i < n := Nat.mod_lt _ hn0
    have g16 : gi u 16 i = zI (dgt n c i : Nat) := by rw [hu1 _ _ (by omega)]; exact h16 i (by omega)
    generalize hx : dgt n c i = x at *
    have e6 : (6 : Int32) * zI (i : Int) + zI (x : Nat) = zI ((6 * i + x : Nat) : Int) := by rw [show (6 : Int32) = zI 6 from rfl, zI_mul, zI_add]; congr 1
    have kx : (ck (zI ((6 * i + x : Nat) : Int)) 36 = true) = True := zI_ckT (by omega) (by omega) (by omega)
    have zx : (zI ((6 * i + x : Nat) : Int)).toNatClampNeg = 6 * i + x := by rw [zI_clamp (by omega) (by omega)]; omega
    simp only [c1, if_false, ki, zi, if_true, g16, e6, kx, zx, nmM]
    rw [show zI (i : Int) + 1 = zI ((i + 1 : Nat) : Int) by rw [show (1 : Int32) = zI 1 from rfl, zI_add]; rfl]
    refine ih (i + 1) f _ (by omega) (by omega) (fun a b ha => by rw [gi_si, if_neg (by omega)]; exact hu1 a b ha) (fun a b ha hb => ?_)
    rw [gi_si]
    by_cases q : a = i ∧ b = x
    · obtain ⟨rfl, rfl⟩ := q
      rw [if_pos ⟨rfl, rfl⟩, hu2 a b ha hb, if_neg (by omega), if_pos ⟨by omega, hx⟩]
      rw [Int32.add_zero]
    · rw [if_neg (by omega), hu2 a b ha hb]
      congr 1
      by_cases z : a < i ∧ dgt n c a = b
      · rw [if_pos z, if_pos ⟨by omega, z.2⟩]
      · rw [if_neg z]
        rw [if_neg (fun y => by
          rcases Nat.lt_or_ge a i with w | w
          · exact z ⟨w, y.2⟩
          · have : a = i := by omega
            subst this
            exact q ⟨rfl, y.2.symm.trans hx⟩)]
/-- all of them -/
theorem r_all {N n : Nat} {C : Nat → Nat → Bool} {t0 : qMem} (hN : 200000 ≤ N) (hn0 : 0 < n) (hn : n ≤ 6) (hC : ∀ a b, a < n → b < n → bt (gi t0 14 a) b = C a b) (hz : ∀ a b, a < n → b < n → gi t0 15 (6 * a + b) = 0) {X : Nat} (hX : X ≤ 50000) : ∀ (d x f : Nat) (t : qMem), x + d = X → d < f → enF t0 t → (∀ a b, a < n → b < n → gi t 15 (6 * a + b) = zI (fb_ct (fun c => gdc n C n 0 (fun _ => false) c && decide (dgt n c a = b)) x : Nat)) → ∃ t', fX12_pairs_l152 N f (zI n) (zI X) (zI (fb_ct (gdc n C n 0 (fun _ => false)) x : Nat)) (zI x) t = some (zI (fb_ct (gdc n C n 0 (fun _ => false)) X : Nat), t') ∧ enF t0 t' ∧ (∀ a b, a < n → b < n → gi t' 15 (6 * a + b) = zI (fb_ct (fun c => gdc n C n 0 (fun _ => false) c && decide (dgt n c a = b)) X : Nat)) := by
  intro d
  induction d with
  | zero =>
    intro x f t hx hf ht h15
    obtain ⟨f, rfl⟩ : ∃ y, f = y + 1 := ⟨f - 1, by omega⟩
    have : x = X := by omega
    subst this
    refine ⟨t, ?_, ht, h15⟩
    show fX12_pairs_s152 N _ (zI n) (zI x) _ (zI x) t = _
    unfold fX12_pairs_s152
    have c1 : (zI (x : Int) ≤ zI (x : Int)) = True := by rw [zI_le (by omega) (by omega) (by omega) (by omega)]; exact eq_true (by omega)
    simp only [c1, if_true]
  | succ d ih =>
    intro x f t hx hf ht h15
    obtain ⟨f, rfl⟩ : ∃ y, f = y + 1 := ⟨f - 1, by omega⟩
    show ∃ t', fX12_pairs_s152 N _ (zI n) (zI X) _ (zI x) t = _ ∧ _
    unfold fX12_pairs_s152
    have c1 : (zI (X : Int) ≤ zI (x : Int)) = False := by rw [zI_le (by omega) (by omega) (by omega) (by omega)]; exact eq_false (by omega)
    simp only [c1, if_false]
    obtain ⟨t1, e1, g1⟩ := r_dig (N := N) (C := C) (c152 := fX12_pairs_l152 N f) (v3 := zI X) (v4 := zI (fb_ct (gdc n C n 0 (fun _ => false)) x : Nat)) (v5 := zI x) hN hn0 hn n 0 N x true (fun _ => false) 0 t (by omega) (by omega) (by omega) (fun k _ => b_0 k) (fun a b ha hb => by rw [ht _ _ (by omega) (by omega)]; exact hC a b ha hb)
    have e1' : fX12_pairs_l171 N (fX12_pairs_l152 N f) N (zI n) (zI X) (zI (fb_ct (gdc n C n 0 (fun _ => false)) x : Nat)) (zI x) (zI x) 0 1 0 t = _ := e1
    rw [e1', Bool.true_and, show zI (x : Int) + 1 = zI ((x + 1 : Nat) : Int) by rw [show (1 : Int32) = zI 1 from rfl, zI_add]; rfl]
    have f1 : enF t0 t1 := fun k j h1 h2 => by rw [g1, if_neg (by omega)]; exact ht k j h1 h2
    have k15 : ∀ b, gi t1 15 b = gi t 15 b := fun b => by rw [g1, if_neg (by omega)]
    have s1 : fb_ct (gdc n C n 0 (fun _ => false)) (x + 1) = fb_ct (gdc n C n 0 (fun _ => false)) x + (if gdc n C n 0 (fun _ => false) x then 1 else 0) := rfl
    have s2 : ∀ a b, fb_ct (fun c => gdc n C n 0 (fun _ => false) c && decide (dgt n c a = b)) (x + 1) = fb_ct (fun c => gdc n C n 0 (fun _ => false) c && decide (dgt n c a = b)) x + (if (gdc n C n 0 (fun _ => false) x && decide (dgt n x a = b)) then 1 else 0) := fun a b => rfl
    cases hg : gdc n C n 0 (fun _ => false) x with
    | false =>
      rw [if_pos rfl]
      have := ih (x + 1) f t1 (by omega) (by omega) f1 (fun a b ha hb => by rw [k15, h15 a b ha hb, s2, hg, Bool.false_and]; rfl)
      rw [s1, hg] at this
      exact this
    | true =>
      rw [if_neg (by decide)]
      obtain ⟨t2, e2, g2, g3⟩ := r_cell (N := N) (n := n) (c := x) (c152 := fX12_pairs_l152 N f) (v3 := zI X) (v4 := zI (fb_ct (gdc n C n 0 (fun _ => false)) x : Nat) + 1) (v5 := zI x) (t := t1) hn0 hn (fun i hi => by rw [g1, if_pos ⟨rfl, by omega, hi⟩]; rfl) n 0 N t1 (by omega) (by omega) (fun _ _ _ => rfl) (fun a b ha hb => by rw [if_neg (by omega), Int32.add_zero])
      have e2' : fX12_pairs_l276 N (fX12_pairs_l152 N f) N (zI n) (zI X) (zI (fb_ct (gdc n C n 0 (fun _ => false)) x : Nat) + 1) (zI x) 0 t1 = _ := e2
      rw [e2', show zI (x : Int) + 1 = zI ((x + 1 : Nat) : Int) by rw [show (1 : Int32) = zI 1 from rfl, zI_add]; rfl]
      have := ih (x + 1) f t2 (by omega) (by omega) (fun k j h1 h2 => by rw [g2 _ _ h1]; exact f1 k j h1 h2) (fun a b ha hb => by
        rw [g3 a b ha hb, k15, h15 a b ha hb, s2, hg, Bool.true_and]
        by_cases z : dgt n x a = b
        · rw [if_pos z, if_pos (decide_eq_true z), show (1 : Int32) = zI 1 from rfl, zI_add]; rfl
        · rw [if_neg z, if_neg (by rw [decide_eq_false z]; decide), show (0 : Int32) = zI 0 from rfl, zI_add]; rfl)
      rw [s1, hg, if_pos rfl] at this
      rw [show zI (fb_ct (gdc n C n 0 (fun _ => false)) x : Nat) + 1 = zI ((fb_ct (gdc n C n 0 (fun _ => false)) x + 1 : Nat) : Int) by rw [show (1 : Int32) = zI 1 from rfl, zI_add]; rfl]
      exact this
