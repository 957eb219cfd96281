/-! sure, by both -/
theorem kj_draw {N H v : Nat} {κ : Nat → Int32} {σ σ' : qMem} {boat : Int} (hN : 200000 ≤ N) (hw : KW κ) (hH : kI κ 300 = H) (hH24 : H ≤ 24) (h : hdK σ κ H) (b0 : 0 ≤ boat) (b1 : boat ≤ 1) (e : fX4_draw N (zI boat) σ = some σ') (g6 : gi σ' 73 6 = zI v) (hv : v ≤ 24) : ∃ (m : Nat → Option Nat) (F W : Nat → Bool), kJ (rwB κ H boat) 24 v m F W := by
  obtain ⟨s, e1, e2, _, _⟩ := e_rows (N := N) (σ := σ) (boat := boat) hN hw hH hH24 h b0 b1
  obtain ⟨w, s', m, F, W, j1, j2⟩ := k_join (N := N) (R := 74) (E := rwB κ H boat) (σ := s) hN (Or.inl rfl) (fun i k hi hk => by rw [e2 i hi, bt_wd _ (by omega)])
  rw [e1, j1, Option.bind_some] at e
  have e' : si s' 73 6 (zI w) = σ' := Option.some.inj e
  rw [← e', gi_si, if_pos ⟨rfl, rfl⟩] at g6
  have wl : w ≤ 24 := by have := j2.2.2.2.1; omega
  rw [zI_eq (by omega) (by omega) (by omega) (by omega)] at g6
  have : w = v := by omega
  subst this
  exact ⟨m, F, W, j2⟩
theorem sim_try2 {N H M i k : Nat} {E : Nat → Nat → Bool} {m : Nat → Option Nat} {F W : Nat → Bool} {s t : qMem} (hN : 200000 ≤ N) (hH : H ≤ 24) (hi : i < 24) (hk : k < 24) (kj : kJ E 24 M m F W) (hE : ∀ a b, a < 24 → b < 24 → bt (gi t 10 a) b = E a b) (ro : roR 74 H s t) (hik : bt (gi t 10 i) k = true) (h6 : gi s 73 6 = zI M) :
    ∃ (v : Nat) (s' t1 t' : qMem), v ≤ M ∧ fX4_canBe N (zI i) (zI k) s = some (bI (decide (v = M)), s') ∧ fX12_fixes N (zI i) (zI k) t = some t1 ∧ fX12_joins N t1 = some (zI v, t') ∧ (∀ a b, ¬ ((a = 73 ∧ b = 4) ∨ a = 75 ∨ a = 76) → gi s' a b = gi s a b) ∧ (∀ a b, ¬ ((a = 0 ∧ b = 20) ∨ (10 ≤ a ∧ a ≤ 12)) → gi t' a b = gi t a b) := by
  have hM : M ≤ 24 := by have := kj.2.2.2.1; omega
  obtain ⟨s1, e1, g1⟩ := e_canBe (N := N) (s := s) (k := k) hN hi
  obtain ⟨t1, e2, g2⟩ := r_fixes (N := N) (t := t) (k := k) hN hi
  have r75 : ∀ b, b < 24 → gi s1 75 b = if b = i then (1 : Int32) <<< (zI k &&& 31) else gi s 74 b &&& (((1 : Int32) <<< (zI k &&& 31)) ^^^ (-1)) := fun b hb' => by
    rw [g1]
    by_cases e : b = i
    · rw [if_pos ⟨rfl, e⟩, if_pos e]
    · rw [if_neg (by omega), if_neg e, if_pos ⟨rfl, hb'⟩]
  have ro1 : roR 75 H s1 t1 := by
    refine fix_rows (C := 10) hi hk ro.1 ro.2.1 hik r75 (fun b hb' => ?_) ?_
    · rw [g2]
      by_cases e : b = i
      · rw [if_pos ⟨rfl, e⟩, if_pos e]
      · rw [if_neg (by omega), if_neg e, if_pos ⟨rfl, hb'⟩]
    · rw [g2, if_neg (by omega), if_neg (by omega)]; exact ro.2.2
  obtain ⟨v, s', t', v1, v2, v3, v4, v5⟩ := sim_join hN (Or.inr rfl) hH ro1
  obtain ⟨w, s'', m', F', W', j1, j2⟩ := k_join (N := N) (R := 75) (E := fun a b => bt (gi s1 75 a) b) (σ := s1) hN (Or.inr rfl) (fun i k hi hk => rfl)
  have wl : w ≤ 24 := by have := j2.2.2.2.1; omega
  have wv : w = v := by
    rw [v2] at j1
    have := congrArg (fun o => (o.getD (0, s)).1) j1
    have z : zI (v : Int) = zI (w : Int) := this
    rw [zI_eq (by omega) (by omega) (by omega) (by omega)] at z
    omega
  have vM : v ≤ M := by
    rw [← wv]
    refine k_max kj j2 (fun a b ha hb z => ?_)
    have z' : bt (gi s1 75 a) b = true := z
    rw [r75 a ha] at z'
    by_cases e : a = i
    · rw [if_pos e, show zI (k : Int) = nI k from rfl, wd_one (by omega), bt_wd _ (by omega)] at z'
      have := of_decide_eq_true z'
      rw [e, this, ← hE i k hi hk]; exact hik
    · rw [if_neg e, b_and, ro.1 a ha, hE a b ha hb] at z'
      exact (Bool.and_eq_true_iff.mp z').1
  have fs : ∀ a b, ¬ ((a = 73 ∧ b = 4) ∨ a = 75 ∨ a = 76) → gi s' a b = gi s a b := fun a b hab => by rw [v4 _ _ (by omega), g1, if_neg (by omega), if_neg (by omega)]
  have ft : ∀ a b, ¬ ((a = 0 ∧ b = 20) ∨ (10 ≤ a ∧ a ≤ 12)) → gi t' a b = gi t a b := fun a b hab => by rw [v5 _ _ (by omega), g2, if_neg (by omega), if_neg (by omega)]
  refine ⟨v, s', t1, t', vM, ?_, e2, v3, fs, ft⟩
  rw [e1, v2, Option.bind_some]
  have g6 : gi s' 73 6 = zI M := (fs _ _ (by omega)).trans h6
  show (if zI (v : Int) = gi s' 73 6 then some ((1 : Int32), s') else some (0, s')) = _
  have c : (zI (v : Int) = gi s' 73 6) = (v = M) := by rw [g6, zI_eq (by omega) (by omega) (by omega) (by omega)]; exact propext (by omega)
  simp only [c]
  by_cases q : v = M
  · rw [if_pos q, decide_eq_true q]; rfl
  · rw [if_neg q, decide_eq_false q]; rfl
theorem b_sure {LW : LWt} {c N : Nat} {σ τ : qMem} (hN : 200000 ≤ N) (hLW : LWc LW) (h : Inv LW c σ τ) (p1 p2 : Int32) : Both LW c (fX11_sure N p1 p2 σ) (fX12_sure N p1 p2 τ) := by
  obtain ⟨b, l1, u1, rfl⟩ := zI_ex p1
  obtain ⟨b2, l2, u2, rfl⟩ := zI_ex p2
  have kw := Inv_KW h
  have ci := Inv_CI h
  have kh := kw.2.2.1.1
  obtain ⟨H, hH⟩ : ∃ H : Nat, kI (τ.1 2) 300 = H := ⟨(kI (τ.1 2) 300).toNat, by omega⟩
  have hH24 : H ≤ 24 := by omega
  have hd := hdK_of (σ := σ) ci hH
  have g300 : gi τ 2 300 = zI H := by rw [← hH]; exact (zI_of _).symm
  have m1 : zI (H : Int) - 1 = zI ((H : Int) - 1) := by rw [show (1 : Int32) = zI 1 from rfl, zI_sub]
  have ck300 : (ck 300 1112 = true) = True := eq_true (by decide)
  unfold fX11_sure fX12_sure
  simp only [ck300, if_true]
  rw [show (300 : Int32).toNatClampNeg = 300 from rfl, g300, hd.2.1, m1]
  have i1 : ∀ x : Int, -2147483648 ≤ x → x < 2147483648 → fX11_isIn (zI x) 0 (zI ((H : Int) - 1)) = some (bI (decide (0 ≤ x ∧ x ≤ (H : Int) - 1))) := fun x y z => e_isIn (b := 0) y z (by omega) (by omega) (by omega) (by omega)
  have i2 : ∀ x : Int, -2147483648 ≤ x → x < 2147483648 → fX12_in (zI x) 0 (zI ((H : Int) - 1)) = some (bI (decide (0 ≤ x ∧ x ≤ (H : Int) - 1))) := fun x y z => e_in (b := 0) y z (by omega) (by omega) (by omega) (by omega)
  rw [i1 b l1 u1, i2 b l1 u1, i1 b2 l2 u2, i2 b2 l2 u2]
  simp only [Option.bind_some, bI_0]
  have ce : (zI b = zI b2) = (b = b2) := by rw [zI_eq (by omega) (by omega) (by omega) (by omega)]
  by_cases q : 0 ≤ b ∧ b ≤ (H : Int) - 1
  rotate_left
  · rw [if_pos (decide_eq_false q), if_pos (decide_eq_false q)]
    exact both_same hLW h _
  have dq : ¬ decide (0 ≤ b ∧ b ≤ (H : Int) - 1) = false := by rw [decide_eq_true q]; decide
  rw [if_neg dq, if_neg dq]
  by_cases q2 : 0 ≤ b2 ∧ b2 ≤ (H : Int) - 1
  rotate_left
  · rw [if_pos (decide_eq_false q2), if_pos (decide_eq_false q2)]
    exact both_same hLW h _
  have dq2 : ¬ decide (0 ≤ b2 ∧ b2 ≤ (H : Int) - 1) = false := by rw [decide_eq_true q2]; decide
  rw [if_neg dq2, if_neg dq2]
  simp only [ce]
  by_cases q3 : b = b2
  · rw [if_pos q3, if_pos q3]
    exact both_same hLW h _
  rw [if_neg q3, if_neg q3]
  obtain ⟨A, rfl⟩ : ∃ A : Nat, b = A := ⟨b.toNat, by omega⟩
  obtain ⟨B, rfl⟩ : ∃ B : Nat, b2 = B := ⟨b2.toNat, by omega⟩
  have hA : A < H := by omega
  have hB : B < H := by omega
  have ri := hd_rng kw hH hA
  have a1 : fX8_at 19 72 (zI (A : Int)) 0 σ = _ := e_hat (f := 0) hH24 hd hA (by omega)
  have a2 : ∀ t : qMem, t.1 2 = τ.1 2 → fX12_heardOf (zI (A : Int)) 0 t = some (zI (hdS (τ.1 2) A 0)) := fun t ht => r_hdOf (κ := τ.1 2) ht (i := A) (f := 0) (by omega) (by omega)
  rw [a1, a2 τ rfl, Option.bind_some, Option.bind_some]
  generalize hdS (τ.1 2) A 0 = boat at *
  obtain ⟨M, σ', t, τ', v1, e1, e2, e3, g6, g5, ro, rows, fc, ft, fm⟩ := sim_draw (N := N) (σ := σ) (τ := τ) (κ := τ.1 2) (boat := boat) hN rfl kw hH hH24 hd ri.1.1 ri.1.2
  obtain ⟨m, F, W, kj⟩ := kj_draw hN kw hH hH24 hd ri.1.1 ri.1.2 e1 g6 v1
  rw [e1, e2, Option.bind_some, Option.bind_some, e3, Option.bind_some]
  have ka : (ck (zI (A : Int)) 24 = true) = True := zI_ckT (by omega) (by omega) (by omega)
  have za : (zI (A : Int)).toNatClampNeg = A := by rw [zI_clamp (by omega) (by omega)]; omega
  have fmm : ∀ k j, ¬ ((k = 0 ∧ j = 20) ∨ (10 ≤ k ∧ k ≤ 12)) → gi τ' k j = gi τ k j := fun k j hk => (fm k j (by omega)).trans (ft k j (by omega))
  -- how both end
  have fin : ∀ (v : Int32) (s' t' : qMem), (∀ k j, ¬ (73 ≤ k ∧ k ≤ 76) → gi s' k j = gi σ k j) → (∀ k j, ¬ ((k = 0 ∧ j = 20) ∨ (10 ≤ k ∧ k ≤ 12)) → gi t' k j = gi τ k j) → Both LW c (some (v, s')) (some (v, t')) := fun v s' t' f1 f2 => by
    refine both_q (v := v) hLW h (Ho_some ⟨rfl, fun k j hk => f1 k j (by unfold scrC at hk; omega), CC_c (m := σ.1) (m' := s'.1) (fun k j hk => f1 k j (by omega)) ci.2.2.2⟩) (Ho_some ⟨rfl, fun k j hk => ?_, RC_c (t := τ.1) (t' := t'.1) (fun k j hk => f2 k j (by omega)) (Inv_RC h)⟩)
    unfold scrM at hk
    exact f2 k j (by omega)
  have eC : ∀ s : qMem, (∀ i, i < 24 → gi s 74 i = gi τ' 10 i) → fX4_certainty N (zI A) (zI B) s = if bt (gi τ' 10 A) B = false then some (0, s) else ((fX4_canBe N (zI A) (zI B) s).bind fun y1 => (if y1.1 = 0 then (some (0, y1.2)) else ((fX4_join N 75 (si (cp y1.2 74 75 0 0 24) 75 A ((gi (cp y1.2 74 75 0 0 24) 75 A) &&& (((1 : Int32) <<< (zI B &&& 31)) ^^^ (-1))))).bind fun y4 => (if (gi y4.2 73 6) ≤ y4.1 then (some (1, y4.2)) else (some (2, y4.2)))))) := fun s hs => by
    unfold fX4_certainty
    have c1 : (zI (A : Int) < 0) = False := by rw [show (0 : Int32) = zI 0 from rfl, zI_lt (by omega) (by omega) (by omega) (by omega)]; exact eq_false (by omega)
    have c2 : (24 ≤ zI (A : Int)) = False := by rw [show (24 : Int32) = zI 24 from rfl, zI_le (by omega) (by omega) (by omega) (by omega)]; exact eq_false (by omega)
    have ok : (cpOK 0 0 24 24 24 = true) = True := cpOK_t (s0 := 0) (d0 := 0) (n := 24) (by omega) (by omega) (by omega) (by omega) (by omega) (by omega) (by omega) (by omega)
    simp only [c1, c2, if_false, ka, za, if_true, ok, nmM, t_and1 (show B < 32 by omega), hs A (by omega)]
  rw [eC σ' ro.1]
  simp only [ka, za, if_true, t_sh1 (show B < 32 by omega), bI_0]
  by_cases q4 : bt (gi τ' 10 A) B = false
  · rw [if_pos q4, if_pos q4]
    exact fin 0 σ' τ' fc fmm
  rw [if_neg q4, if_neg q4]
  have q4' : bt (gi τ' 10 A) B = true := by
    cases z : bt (gi τ' 10 A) B with
    | false => exact absurd z q4
    | true => rfl
  obtain ⟨v, s', t1, t', vM, x1, x2, x3, fs, fv⟩ := sim_try2 (N := N) (i := A) (k := B) (s := σ') (t := τ') hN hH24 (by omega) (by omega) kj (fun a b ha hb => by rw [rows a ha, bt_wd _ (by omega)]) ro q4' g6
  rw [x1, x2, Option.bind_some, Option.bind_some, x3, Option.bind_some]
  have cv : ∀ w : Nat, w ≤ 24 → (zI (M : Int) ≤ zI (w : Int)) = (M ≤ w) := fun w hw => by rw [zI_le (by omega) (by omega) (by omega) (by omega)]; exact propext (by omega)
  simp only [bI_0, cv v (by omega)]
  have fs' : ∀ k j, ¬ (73 ≤ k ∧ k ≤ 76) → gi s' k j = gi σ k j := fun k j hk => (fs k j (by omega)).trans (fc k j hk)
  have fv' : ∀ k j, ¬ ((k = 0 ∧ j = 20) ∨ (10 ≤ k ∧ k ≤ 12)) → gi t' k j = gi τ k j := fun k j hk => (fv k j hk).trans (fmm k j hk)
  by_cases q5 : v = M
  rotate_left
  · rw [if_pos (decide_eq_false q5), if_neg (show ¬ M ≤ v by omega)]
    exact fin 0 s' t' fs' fv'
  have dq5 : ¬ decide (v = M) = false := by rw [decide_eq_true q5]; decide
  rw [if_neg dq5, if_pos (show M ≤ v by omega)]
  have kt' : t'.1 2 = τ.1 2 := funext fun j => fv' 2 j (by omega)
  rw [a2 t' kt', Option.bind_some]
  obtain ⟨t2, y1, y2, y3⟩ := Ho_get (r_mays (N := N) (τ := t') (boat := boat) (p := A) (q := B) hN kt' kw hH hH24 ri.1.1 ri.1.2 (by omega) (by omega) (by omega) (by omega))
  rw [y1, Option.bind_some]
  generalize hs2 : si (cp s' 74 75 0 0 24) 75 A ((gi (cp s' 74 75 0 0 24) 75 A) &&& (((1 : Int32) <<< (zI B &&& 31)) ^^^ (-1))) = s2
  have gc : ∀ a b, gi (cp s' 74 75 0 0 24) a b = if a = 75 ∧ b < 24 then gi s' 74 b else gi s' a b := fun a b => by
    have e := gi_cp (σ := s') (ks := 74) (kd := 75) (s0 := 0) (d0 := 0) (n := 24) (by omega) (by omega) (by omega) (by omega) (by omega) (by omega) a b
    refine (show gi (cp s' 74 75 0 0 24) a b = _ from e).trans ?_
    by_cases q : a = 75 ∧ b < 24
    · rw [if_pos q, if_pos (by omega)]
      congr 1
      omega
    · rw [if_neg q, if_neg (by omega)]
  have s74 : ∀ a, a < 24 → gi s' 74 a = wd (rwB (τ.1 2) H boat a) := fun a ha => by rw [fs _ _ (by omega), ro.1 a ha, rows a ha]
  have ro2 : roR 75 H s2 t2 := by
    refine ⟨fun a ha => ?_, fun a k ha hk hh => ?_, ?_⟩
    · rw [y2 a ha, ← hs2, gi_si]
      by_cases e : a = A
      · rw [if_pos ⟨rfl, e⟩, gc, if_pos ⟨rfl, by omega⟩, s74 A (by omega), ← wd_bt (wd (rwB (τ.1 2) H boat A) &&& (((1 : Int32) <<< (zI B &&& 31)) ^^^ (-1)))]
        refine wd_congr (fun k hk => ?_)
        rw [bt_nand hk, bt_wd _ hk, show zI (B : Int) = nI B from rfl, wd_one (by omega), bt_wd _ hk, e]
        unfold rwX
        congr 2
        by_cases z : k = B
        · rw [decide_eq_true z, decide_eq_true ⟨rfl, by omega⟩]
        · rw [decide_eq_false z, decide_eq_false (by omega)]
      · rw [if_neg (by omega), gc, if_pos ⟨rfl, ha⟩, s74 a ha]
        refine wd_congr (fun k hk => ?_)
        unfold rwX
        rw [decide_eq_false (by omega), Bool.not_false, Bool.and_true]
    · rw [y2 a ha, bt_wd _ (by omega)]
      unfold rwX
      rw [rwB_out hh, Bool.false_and]
    · rw [y3 _ _ (by omega), fv' _ _ (by omega)]; exact g300
  obtain ⟨w, s3, t3, w1, w2, w3, w4, w5⟩ := sim_join hN (Or.inr rfl) hH24 ro2
  rw [w2, Option.bind_some]
  show Both LW c _ ((fX12_joins N t2).bind _)
  rw [w3, Option.bind_some]
  have g2 : ∀ a b, a ≠ 75 → gi s2 a b = gi s' a b := fun a b hab => by rw [← hs2, gi_si, if_neg (by omega), gc, if_neg (by omega)]
  have g36 : gi s3 73 6 = zI M := by rw [w4 _ _ (by omega), g2 _ _ (by omega), fs _ _ (by omega)]; exact g6
  have f3 : ∀ k j, ¬ (73 ≤ k ∧ k ≤ 76) → gi s3 k j = gi σ k j := fun k j hk => by rw [w4 _ _ (by omega), g2 _ _ (by omega)]; exact fs' k j hk
  have f4 : ∀ k j, ¬ ((k = 0 ∧ j = 20) ∨ (10 ≤ k ∧ k ≤ 12)) → gi t3 k j = gi τ k j := fun k j hk => by rw [w5 _ _ (by omega), y3 _ _ (by omega)]; exact fv' k j hk
  simp only [g36, cv w w1]
  by_cases q6 : M ≤ w
  · rw [if_pos q6, if_pos q6]; exact fin 1 s3 t3 f3 f4
  · rw [if_neg q6, if_neg q6]; exact fin 2 s3 t3 f3 f4
