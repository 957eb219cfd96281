/-! looks at cells: the class -/
def qN (f k : Nat) : Nat := (100 - f) ^ k * 100 ^ (5 - k)
def qS (f : Nat) : Nat → Nat
  | 0 => 0
  | x + 1 => qS f x + qN f x * f
theorem qN_tab : ∀ f : Fin 101, ∀ k : Fin 6, qN f.val k.val ≤ 10000000000 ∧ (k.val < 5 → qN f.val (k.val + 1) ≤ qN f.val k.val) := by decide +kernel
theorem qS_tab : ∀ f : Fin 101, ∀ x : Fin 7, (100 - f.val) ^ x.val * 100 ^ (6 - x.val) + qS f.val x.val = 1000000000000 := by decide +kernel
def wtS (κ : Nat → Int32) (c : Nat) : Int := kI κ (226 + 2 * c)
def fdS (κ : Nat → Int32) (c : Nat) : Int := kI κ (226 + 2 * c + 1)
def gnS (κ : Nat → Int32) (n c j : Nat) : Int := if j ≤ 5 ∧ c < n then wtS κ c * (qN (fdS κ c).toNat j : Int) * fdS κ c else 0
section SPR
variable {κ : Nat → Int32} {n : Nat}
theorem cell_rng (hw : KW κ) (hn : kI κ 305 = n) {c : Nat} (hc : c < n) : (0 ≤ wtS κ c ∧ wtS κ c ≤ 100) ∧ (0 ≤ fdS κ c ∧ fdS κ c ≤ 100) := hw.2.2.2.2.2.2.2.2.2.2 c (by omega) (by omega)
theorem gn_rng (hw : KW κ) (hn : kI κ 305 = n) (c j : Nat) : 0 ≤ gnS κ n c j ∧ gnS κ n c j ≤ 100000000000000 := by
  unfold gnS
  split
  · rename_i h
    obtain ⟨a, b⟩ := cell_rng hw hn h.2
    have t := (qN_tab ⟨(fdS κ c).toNat, by omega⟩ ⟨j, by omega⟩).1
    simp only at t
    generalize qN (fdS κ c).toNat j = q at *
    have h1 : 0 ≤ wtS κ c * (q : Int) := Int.mul_nonneg a.1 (by omega)
    have h2 : wtS κ c * (q : Int) ≤ 100 * 10000000000 := Int.mul_le_mul a.2 (by omega) (by omega) (by omega)
    refine ⟨Int.mul_nonneg h1 b.1, ?_⟩
    have := Int.mul_le_mul h2 b.2 b.1 (by omega)
    omega
  · omega
theorem gn_anti (hw : KW κ) (hn : kI κ 305 = n) (c j : Nat) : gnS κ n c (j + 1) ≤ gnS κ n c j := by
  by_cases q : j + 1 ≤ 5 ∧ c < n
  · unfold gnS
    rw [if_pos q, if_pos (by omega)]
    obtain ⟨a, b⟩ := cell_rng hw hn q.2
    have t := (qN_tab ⟨(fdS κ c).toNat, by omega⟩ ⟨j, by omega⟩).2 (by show j < 5; omega)
    simp only at t
    have h1 : wtS κ c * (qN (fdS κ c).toNat (j + 1) : Int) ≤ wtS κ c * (qN (fdS κ c).toNat j : Int) := Int.mul_le_mul_of_nonneg_left (by omega) a.1
    exact Int.mul_le_mul_of_nonneg_right h1 b.1
  · have := (gn_rng hw hn c j).1
    conv => lhs; unfold gnS
    rw [if_neg q]
    exact this
theorem e_power {N : Nat} (hN : 200000 ≤ N) {b t : Nat} (hb : b ≤ 100) (ht : t ≤ 6) : fX11_power N (zI b) (zI t) = some (zL ((b ^ t : Nat) : Int)) := by
  have loop : ∀ (d i f : Nat), i + d = t → d < f → fX11_power_l5 N f (zI b) (zI t) (zL ((b ^ i : Nat) : Int)) (zI i) = some (zL ((b ^ t : Nat) : Int)) := by
    intro d
    induction d with
    | zero =>
      intro i f hi hf
      obtain ⟨f, rfl⟩ : ∃ k, f = k + 1 := ⟨f - 1, by omega⟩
      have : i = t := by omega
      subst this
      show fX11_power_s5 N _ (zI b) (zI i) _ (zI i) = _
      unfold fX11_power_s5
      have c1 : (zI i ≤ zI i) = True := by rw [zI_le (by omega) (by omega) (by omega) (by omega)]; exact eq_true (by omega)
      simp only [c1, if_true]
    | succ d ih =>
      intro i f hi hf
      obtain ⟨f, rfl⟩ : ∃ k, f = k + 1 := ⟨f - 1, by omega⟩
      show fX11_power_s5 N _ (zI b) (zI t) _ (zI i) = _
      unfold fX11_power_s5
      have c1 : (zI t ≤ zI i) = False := by rw [zI_le (by omega) (by omega) (by omega) (by omega)]; exact eq_false (by omega)
      simp only [c1, if_false]
      rw [zI_long (by omega) (by omega), zL_mul, show zI i + 1 = zI ((i + 1 : Nat) : Int) by rw [show (1 : Int32) = zI 1 from rfl, zI_add]; rfl, ← Int.natCast_mul, ← Nat.pow_succ]
      exact ih (i + 1) f (by omega) (by omega)
  unfold fX11_power
  have := loop t 0 N (by omega) (by omega)
  rw [Nat.pow_zero] at this
  exact this
def clK (σ : qMem) (κ : Nat → Int32) (n : Nat) : Prop := gi σ 33 0 = zI 2 ∧ gi σ 33 3 = zI n ∧ ∀ c : Nat, c < n → gi σ 34 (2 * c) = zI (wtS κ c) ∧ gi σ 34 (2 * c + 1) = zI (fdS κ c)
theorem clK_of {σ : qMem} (h : CI σ.1 κ) (hn : kI κ 305 = n) : clK σ κ n := by
  obtain ⟨bs, bk, kw, _⟩ := h
  have r := bk.2.2.2.2.2.2.2.2.2.2.2.1
  have kb := kw.2.2.2.2.2.2.2.2.2.1
  refine ⟨bs.2.2.2.2.2.2.2.2.2.1.1, (r.1.trans (zI_of _).symm).trans (congrArg zI hn), fun c hc => ⟨?_, ?_⟩⟩
  · refine (r.2 (2 * c) (by omega)).trans ?_
    unfold wtS kI
    rw [show (226 + 2 * (c : Int)).toNat = 226 + 2 * c by omega]
    exact (zI_of _).symm
  · refine (r.2 (2 * c + 1) (by omega)).trans ?_
    unfold fdS kI
    rw [show (226 + 2 * (c : Int) + 1).toNat = 226 + (2 * c + 1) by omega]
    exact (zI_of _).symm
theorem e_gain {N : Nat} {σ : qMem} (hN : 200000 ≤ N) (hw : KW κ) (hn : kI κ 305 = n) (n6 : n ≤ 6) (hk : clK σ κ n) {c j : Nat} (hc : c < n) (hj : j ≤ 5) : fX11_gain N (zI c) (zI j) σ = some (zL (gnS κ n c j)) := by
  obtain ⟨a, b⟩ := cell_rng hw hn hc
  obtain ⟨g0, g3, gc⟩ := hk
  have t1 : fX8_at 33 12 (zI c) 1 σ = some (zI (fdS κ c)) := by
    have := e_at (n := 12) (col := 1) g0 g3 (show 0 ≤ (c : Int) by omega) (by omega) (by omega) (by omega) (by omega) (by omega) (by omega)
    refine (show fX8_at 33 12 (zI c) 1 σ = _ from this).trans ?_
    rw [show ((c : Int) * 2 + 1).toNat = 2 * c + 1 by omega]
    exact congrArg some (gc c hc).2
  have t0 : fX8_at 33 12 (zI c) 0 σ = some (zI (wtS κ c)) := by
    have := e_at (n := 12) (col := 0) g0 g3 (show 0 ≤ (c : Int) by omega) (by omega) (by omega) (by omega) (by omega) (by omega) (by omega)
    refine (show fX8_at 33 12 (zI c) 0 σ = _ from this).trans ?_
    rw [show ((c : Int) * 2 + 0).toNat = 2 * c by omega]
    exact congrArg some (gc c hc).1
  unfold fX11_gain
  rw [t1, Option.bind_some, t0, Option.bind_some]
  have e1 : (100 : Int32) - zI (fdS κ c) = zI ((100 - (fdS κ c).toNat : Nat) : Int) := by rw [show (100 : Int32) = zI 100 from rfl, zI_sub]; congr 1; omega
  have e2 : (5 : Int32) - zI j = zI ((5 - j : Nat) : Int) := by rw [show (5 : Int32) = zI 5 from rfl, zI_sub]; congr 1; omega
  have p2 : fX11_power N 100 (zI ((5 - j : Nat) : Int)) = _ := e_power (b := 100) hN (by omega) (by omega)
  rw [e1, e_power hN (by omega) (by omega), Option.bind_some, e2, p2, Option.bind_some, zI_long (by omega) (by omega), zI_long (by omega) (by omega), zL_mul, zL_mul, zL_mul]
  unfold gnS qN
  rw [if_pos ⟨hj, hc⟩, Int.natCast_mul, Int.mul_assoc (wtS κ c)]
def ksK (k : Nat → Nat) (s : qMem) : Prop := ∀ c, c < 6 → gi s 88 c = zI (k c : Nat)
theorem e_spreadLooks {N : Nat} {σ : qMem} {L : Nat} (hN : 200000 ≤ N) (hw : KW κ) (hn : kI κ 305 = n) (n6 : n ≤ 6) (hk : clK σ κ n) (hL : L ≤ 6) :
    Ho (fX11_spreadLooks N (zI L) σ) (fun y => ∃ k : Nat → Nat, ksK k y.2 ∧ grI (gnS κ n) k n ∧ smN (fun c => (k c : Int)) n = (if n = 0 then 0 else (L : Int)) ∧ (∀ c, n ≤ c → k c = 0) ∧ y.1 = zL (vlG (gnS κ n) k n) ∧ ∀ a j, a ≠ 88 → gi y.2 a j = gi σ a j) := by
  unfold fX11_spreadLooks
  refine Ho_bind (e_fill (N := N) (k0 := 88) (n0 := 6) (v := 0) (σ := σ) hN (by omega)) (fun s0 hs0 => ?_)
  have fr0 : ∀ a j, a ≠ 88 → gi s0 a j = gi σ a j := fun a j ha => by rw [hs0, if_neg (by omega)]
  have k00 : ksK (fun _ => 0) s0 := fun c hc => by rw [hs0, if_pos ⟨rfl, hc⟩]; rfl
  have z0 : ∀ m, smN (fun c => (((fun _ => 0) c : Nat) : Int)) m = 0 := fun m => by
    have := smN_const 0 m
    rw [Int.zero_mul] at this
    exact this
  have v0 : ∀ m, vlG (gnS κ n) (fun _ => 0) m = 0 := fun m => by
    have := smN_const 0 m
    rw [Int.zero_mul] at this
    exact this
  have ckf : ∀ s, (∀ a j, a ≠ 88 → gi s a j = gi σ a j) → clK s κ n := fun s hs => ⟨(hs _ _ (by omega)).trans hk.1, (hs _ _ (by omega)).trans hk.2.1, fun c hc => ⟨(hs _ _ (by omega)).trans (hk.2.2 c hc).1, (hs _ _ (by omega)).trans (hk.2.2 c hc).2⟩⟩
  have hst := lp_for (S := Int64 × qMem) (R := Int64 × qMem) (fun m i s => fX11_spreadLooks_l13 N m (zI L) s.1 (zI i) s.2)
    (fun i s => 0 ≤ i ∧ ∃ k : Nat → Nat, ksK k s.2 ∧ grI (gnS κ n) k n ∧ smN (fun c => (k c : Int)) n = (if n = 0 then 0 else i) ∧ (∀ c, n ≤ c → k c = 0) ∧ s.1 = zL (vlG (gnS κ n) k n) ∧ ∀ a j, a ≠ 88 → gi s.2 a j = gi σ a j)
    (fun y => ∃ k : Nat → Nat, ksK k y.2 ∧ grI (gnS κ n) k n ∧ smN (fun c => (k c : Int)) n = (if n = 0 then 0 else (L : Int)) ∧ (∀ c, n ≤ c → k c = 0) ∧ y.1 = zL (vlG (gnS κ n) k n) ∧ ∀ a j, a ≠ 88 → gi y.2 a j = gi σ a j) L ?_ ?_ N 0 (zL 0, s0) (by omega) (by omega) ⟨by omega, fun _ => 0, k00, fun a b _ _ hk0 => absurd hk0 (Nat.lt_irrefl 0), by rw [z0]; split <;> rfl, fun _ _ => rfl, by rw [v0], fr0⟩
  · exact hst
  · intro m ⟨v, s⟩ ⟨_, k, h1, h2, h3, h4, h5, h6⟩
    show Ho (fX11_spreadLooks_s13 N _ (zI L) v (zI L) s) _
    unfold fX11_spreadLooks_s13
    have c1 : (zI L ≤ zI L) = True := by rw [zI_le (by omega) (by omega) (by omega) (by omega)]; exact eq_true (by omega)
    simp only [c1, if_true]
    exact Ho_some ⟨k, h1, h2, h3, h4, h5, h6⟩
  · intro m i ⟨v, s⟩ hi ⟨i0, k, h1, h2, h3, h4, h5, h6⟩ hc
    show Ho (fX11_spreadLooks_s13 N _ (zI L) v (zI i) s) _
    unfold fX11_spreadLooks_s13
    have c1 : (zI L ≤ zI i) = False := by rw [zI_le (by omega) (by omega) (by omega) (by omega)]; exact eq_false (by omega)
    have g3 : gi s 33 3 = zI n := (h6 _ _ (by omega)).trans hk.2.1
    have c2 : (zI n ≤ 0) = (n = 0) := by rw [show (0 : Int32) = zI 0 from rfl, zI_le (by omega) (by omega) (by omega) (by omega)]; exact propext (by omega)
    simp only [c1, if_false, g3, c2]
    by_cases qn : n = 0
    · rw [if_pos qn]
      refine Ho_some ⟨k, h1, h2, ?_, h4, h5, h6⟩
      rw [h3, if_pos qn, if_pos qn]
    · rw [if_neg qn]
      rw [if_neg qn] at h3
      -- no cell has been looked at more than five times
      have k5 : ∀ c, c < n → k c ≤ 5 := fun c hc' => by
        have a := smN_le (f := fun x => if x = c then (k c : Int) else 0) (h := fun x => (k x : Int)) n (fun x hx => by
          show (if x = c then (k c : Int) else 0) ≤ (k x : Int)
          split
          · rename_i e; rw [e]; omega
          · omega)
        have b : ∀ m, c < m → smN (fun x => if x = c then (k c : Int) else 0) m = k c := by
          intro m
          induction m with
          | zero => intro hm; omega
          | succ m ihm =>
            intro hm
            show smN (fun x => if x = c then (k c : Int) else 0) m + (if m = c then (k c : Int) else 0) = _
            by_cases e : m = c
            · subst e
              have z : smN (fun x => if x = m then (k m : Int) else 0) m = smN (fun _ => 0) m := smN_cong m (fun x hx => by rw [if_neg (by omega)])
              rw [z, smN_const, if_pos rfl]
              omega
            · rw [ihm (by omega), if_neg e]; omega
        rw [b n hc'] at a
        have : smN (fun x => (k x : Int)) n ≤ 5 := by rw [h3]; omega
        omega
      have cks := ckf s h6
      have gk : ∀ c, c < n → fX11_gain N (zI c) (gi s 88 c) s = some (zL (gnS κ n c (k c))) := fun c hc' => by
        rw [h1 c (by omega)]
        exact e_gain hN hw hn n6 cks hc' (k5 c hc')
      have inner := lp_for (S := Nat) (R := Int64 × qMem) (fun m' x b => fX11_spreadLooks_l38 N (fX11_spreadLooks_l13 N m) m' (zI L) v (zI i) (zI (b : Nat)) (zI x) s)
        (fun x b => 1 ≤ x ∧ (b : Int) < x ∧ b < n ∧ (∀ c : Nat, (c : Int) < x → gnS κ n c (k c) ≤ gnS κ n b (k b)) ∧ ∀ c, c < b → gnS κ n c (k c) < gnS κ n b (k b)) (fun y => ∃ k : Nat → Nat, ksK k y.2 ∧ grI (gnS κ n) k n ∧ smN (fun c => (k c : Int)) n = (if n = 0 then 0 else (L : Int)) ∧ (∀ c, n ≤ c → k c = 0) ∧ y.1 = zL (vlG (gnS κ n) k n) ∧ ∀ a j, a ≠ 88 → gi y.2 a j = gi σ a j) n ?_ ?_ N 1 0 (by omega) (by omega) ⟨by omega, by omega, by omega, fun c hc' => by rw [show c = 0 by omega]; exact Int.le_refl _, fun c hc' => by omega⟩
      · exact inner
      · intro m' b ⟨_, _, bn, b1, b2⟩
        show Ho (fX11_spreadLooks_s38 N _ _ (zI L) v (zI i) (zI (b : Nat)) (zI n) s) _
        unfold fX11_spreadLooks_s38
        have d1 : (zI n ≤ zI n) = True := by rw [zI_le (by omega) (by omega) (by omega) (by omega)]; exact eq_true (by omega)
        have kb : (ck (zI (b : Nat)) 6 = true) = True := zI_ckT (by omega) (by omega) (by omega)
        have zb : (zI (b : Nat)).toNatClampNeg = b := by rw [zI_clamp (by omega) (by omega)]; omega
        simp only [g3, d1, if_true, kb, zb, gk b bn, Option.bind_some, nmM]
        rw [show zI i + 1 = zI (i + 1) by rw [show (1 : Int32) = zI 1 from rfl, zI_add]]
        refine hc (v + zL (gnS κ n b (k b)), si s 88 b (gi s 88 b + 1)) ⟨by omega, fun c => if c = b then k c + 1 else k c, fun c hc' => ?_, gr_step (gn_anti hw hn) h2 bn (fun c hc' => b1 c (by omega)) b2, ?_, fun c hc' => ?_, ?_, fun a j ha => ?_⟩
        · show gi (si s 88 b (gi s 88 b + 1)) 88 c = zI ((if c = b then k c + 1 else k c : Nat) : Int)
          rw [gi_si]
          by_cases e : c = b
          · subst e; rw [if_pos ⟨rfl, rfl⟩, if_pos rfl, h1 c hc', show (1 : Int32) = zI 1 from rfl, zI_add]; rfl
          · rw [if_neg (by omega), if_neg e]; exact h1 c hc'
        · rw [cn_step n bn, h3, if_neg qn]
        · show (if c = b then k c + 1 else k c) = 0
          rw [if_neg (by omega)]; exact h4 c hc'
        · show v + zL (gnS κ n b (k b)) = zL (vlG (gnS κ n) (fun c => if c = b then k c + 1 else k c) n)
          have h5' : v = zL (vlG (gnS κ n) k n) := h5
          rw [vl_step n bn, h5', zL_add]
        · show gi (si s 88 b (gi s 88 b + 1)) a j = _
          rw [gi_si, if_neg (by omega)]; exact h6 a j ha
      · intro m' x b hx ⟨x1, bx, bn, b1, b2⟩ hc2
        show Ho (fX11_spreadLooks_s38 N _ _ (zI L) v (zI i) (zI (b : Nat)) (zI x) s) _
        unfold fX11_spreadLooks_s38 fX11_spreadLooks_b87
        obtain ⟨y, rfl⟩ : ∃ y : Nat, x = y := ⟨x.toNat, by omega⟩
        have d1 : (zI n ≤ zI y) = False := by rw [zI_le (by omega) (by omega) (by omega) (by omega)]; exact eq_false (by omega)
        have kb : (ck (zI (b : Nat)) 6 = true) = True := zI_ckT (by omega) (by omega) (by omega)
        have zb : (zI (b : Nat)).toNatClampNeg = b := by rw [zI_clamp (by omega) (by omega)]; omega
        have ky : (ck (zI (y : Nat)) 6 = true) = True := zI_ckT (by omega) (by omega) (by omega)
        have zy : (zI (y : Nat)).toNatClampNeg = y := by rw [zI_clamp (by omega) (by omega)]; omega
        have r1 := gn_rng hw hn y (k y)
        have r2 := gn_rng hw hn b (k b)
        have lc : (lg_cmp (zL (gnS κ n y (k y))) (zL (gnS κ n b (k b))) ≤ 0) = (gnS κ n y (k y) ≤ gnS κ n b (k b)) := propext ((lg_cmp_le _ _).trans (by rw [zL_le (by omega) (by omega) (by omega) (by omega)]))
        simp only [g3, d1, if_false, kb, zb, ky, zy, if_true, gk b bn, gk y (by omega), Option.bind_some, lc]
        rw [show zI (y : Int) + 1 = zI ((y : Int) + 1) by rw [show (1 : Int32) = zI 1 from rfl, zI_add]]
        by_cases qg : gnS κ n y (k y) ≤ gnS κ n b (k b)
        · rw [if_pos qg]
          refine hc2 b ⟨by omega, by omega, bn, fun c hc' => ?_, b2⟩
          by_cases e : c = y
          · rw [e]; exact qg
          · exact b1 c (by omega)
        · rw [if_neg qg]
          refine hc2 y ⟨by omega, by omega, by omega, fun c hc' => ?_, fun c hc' => ?_⟩
          · by_cases e : c = y
            · rw [e]; exact Int.le_refl _
            · have := b1 c (by omega); omega
          · have := b1 c (by omega); omega
end SPR
