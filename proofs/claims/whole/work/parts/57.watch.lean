/-! known, watch, count -/
def BothCr (LW : LWt) (c : Nat) (τ : qMem) (a : Option (Int32 × qMem)) (b : Option Int32) : Prop := ∃ v σ, a = some (v, σ) ∧ b = some v ∧ Inv LW (c + 1) σ τ
theorem both_qr {LW : LWt} {c : Nat} {σ τ : qMem} {v : Int32} {oC : Option (Int32 × qMem)} {oM : Option Int32} (hLW : LWc LW) (h : Inv LW c σ τ) (hC : Ho oC (fun a => a.1 = v ∧ SC σ a.2 ∧ CC a.2.1 (τ.1 2))) (hM : oM = some v) : BothCr LW c τ oC oM := by
  obtain ⟨⟨a, σ'⟩, e1, rfl, h1, h2⟩ := hC
  exact ⟨_, _, e1, hM, Inv_scr hLW h h1 (SM_refl _) h2 (Inv_RC h)⟩
theorem both_samer {LW : LWt} {c : Nat} {σ τ : qMem} (hLW : LWc LW) (h : Inv LW c σ τ) (v : Int32) : BothCr LW c τ (some (v, σ)) (some v) := both_qr hLW h (Ho_some ⟨rfl, SC_refl _, (Inv_CI h).2.2.2⟩) rfl
theorem w_bit {u : Int32} {n : Nat} (hn : n < 32) : ushr u (zI n) &&& 1 = bI (bt u n) := by
  have := wd_bit (bt u) hn
  rw [wd_bt] at this
  rw [← nI_zI]
  exact this
theorem r_knownB {N : Nat} {τ : qMem} {e : Bool} {k : Nat} (hN : 200000 ≤ N) (hw : KW (τ.1 2)) (hv : validI (τ.1 2) (e, k)) : (e = false → fX12_isKnownHeard N (zI k) τ = some (bI (knownB (τ.1 2) (e, k)))) ∧ (e = true → fX12_isKnownEcho N (zI k) τ = some (bI (knownB (τ.1 2) (e, k)))) := by
  have h := r_isKnown hN hw hv
  constructor
  · intro q
    subst q
    unfold fX12_isKnownHeard
    rw [show fX12_isKnown N 0 (zI k) τ = _ from h, Option.bind_some, if_pos (bI_or _)]
  · intro q
    subst q
    unfold fX12_isKnownEcho
    rw [show fX12_isKnown N 1 (zI k) τ = _ from h, Option.bind_some, if_pos (bI_or _)]
theorem if_bI10 (b : Bool) : (if bI b = 0 then some (0 : Int32) else some 1) = some (bI b) := by cases b <;> rfl
theorem b_known {LW : LWt} {c N : Nat} {σ τ : qMem} (hN : 200000 ≤ N) (hLW : LWc LW) (h : Inv LW c σ τ) (p1 p2 : Int32) : BothCr LW c τ (fX11_known N p1 p2 σ) (fX12_known N p1 p2 τ) := by
  obtain ⟨a1, l1, u1, rfl⟩ := zI_ex p1
  obtain ⟨a2, l2, u2, rfl⟩ := zI_ex p2
  have hkw := Inv_KW h
  have hci := Inv_CI h
  have kh := hkw.2.2.1
  have ke := hkw.2.2.2.1
  have g19 : gi σ 19 3 = zI (kI (τ.1 2) 300) := hci.2.1.2.2.2.2.1.1.trans (zI_of _).symm
  have g21 : gi σ 21 3 = zI (kI (τ.1 2) 301) := hci.2.1.2.2.2.2.2.1.1.trans (zI_of _).symm
  have g300 : gi τ 2 (300 : Int32).toNatClampNeg = zI (kI (τ.1 2) 300) := (zI_of _).symm
  have g301 : gi τ 2 (301 : Int32).toNatClampNeg = zI (kI (τ.1 2) 301) := (zI_of _).symm
  have c300 : (ck (300 : Int32) 1112 = true) = True := by decide
  have c301 : (ck (301 : Int32) 1112 = true) = True := by decide
  have n1 := kh.1
  have n2 := ke.1
  have i300 : ∀ b : Int, -2147483648 ≤ b → b < 2147483648 → fX11_isIn (zI b) 0 (zI (kI (τ.1 2) 300) - 1) = some (bI (decide (0 ≤ b ∧ b ≤ kI (τ.1 2) 300 - 1))) := fun b x y => by
    rw [show (1 : Int32) = zI 1 from rfl, zI_sub]
    exact e_isIn (b := 0) x y (by omega) (by omega) (by omega) (by omega)
  have i301 : ∀ b : Int, -2147483648 ≤ b → b < 2147483648 → fX11_isIn (zI b) 0 (zI (kI (τ.1 2) 301) - 1) = some (bI (decide (0 ≤ b ∧ b ≤ kI (τ.1 2) 301 - 1))) := fun b x y => by
    rw [show (1 : Int32) = zI 1 from rfl, zI_sub]
    exact e_isIn (b := 0) x y (by omega) (by omega) (by omega) (by omega)
  have j300 : ∀ b : Int, -2147483648 ≤ b → b < 2147483648 → fX12_in (zI b) 0 (zI (kI (τ.1 2) 300) - 1) = some (bI (decide (0 ≤ b ∧ b ≤ kI (τ.1 2) 300 - 1))) := fun b x y => by
    rw [show (1 : Int32) = zI 1 from rfl, zI_sub]
    exact e_in (b := 0) x y (by omega) (by omega) (by omega) (by omega)
  have j301 : ∀ b : Int, -2147483648 ≤ b → b < 2147483648 → fX12_in (zI b) 0 (zI (kI (τ.1 2) 301) - 1) = some (bI (decide (0 ≤ b ∧ b ≤ kI (τ.1 2) 301 - 1))) := fun b x y => by
    rw [show (1 : Int32) = zI 1 from rfl, zI_sub]
    exact e_in (b := 0) x y (by omega) (by omega) (by omega) (by omega)
  have hb : BothCr LW c τ (fX11_known_b43 N (zI a1) (zI a2) σ) (fX12_known_b36 N (zI a1) (zI a2) τ) := by
    unfold fX11_known_b43 fX12_known_b36
    simp only [c301, if_true, g21, g301, i301 a2 l2 u2, j301 a2 l2 u2, Option.bind_some, if_bI, decide_eq_true_eq]
    by_cases q1 : zI a1 = 1
    · rw [if_pos q1, if_pos q1]
      by_cases q2 : 0 ≤ a2 ∧ a2 ≤ kI (τ.1 2) 301 - 1
      · rw [if_pos q2, if_pos q2]
        obtain ⟨k, rfl⟩ : ∃ k : Nat, a2 = k := ⟨a2.toNat, by omega⟩
        refine both_qr (v := bI (knownB (τ.1 2) (true, k))) hLW h ?_ ?_
        · refine Ho_bind (e_sortOut hN hci) fun s ⟨u1', u2', u3, u4, _⟩ => ?_
          refine Ho_some ⟨?_, u4, u3.2.2.2⟩
          show ushr (gi s 44 13) (zI (k : Int)) &&& 1 = _
          rw [w_bit (by omega)]
          congr 1
          exact u1'.2.1 k (by omega)
        · rw [(r_knownB (e := true) hN hkw (Or.inr ⟨rfl, by simp only; omega⟩)).2 rfl, Option.bind_some]
          cases knownB (τ.1 2) (true, k) <;> rfl
      · rw [if_neg q2, if_neg q2]
        exact both_samer hLW h _
    · rw [if_neg q1, if_neg q1]
      exact both_samer hLW h _
  unfold fX11_known fX12_known
  simp only [c300, if_true, g19, g300, i300 a2 l2 u2, j300 a2 l2 u2, Option.bind_some, if_bI, decide_eq_true_eq]
  by_cases q1 : zI a1 = 0
  · rw [if_pos q1, if_pos q1]
    by_cases q2 : 0 ≤ a2 ∧ a2 ≤ kI (τ.1 2) 300 - 1
    · rw [if_pos q2, if_pos q2]
      obtain ⟨k, rfl⟩ : ∃ k : Nat, a2 = k := ⟨a2.toNat, by omega⟩
      refine both_qr (v := bI (knownB (τ.1 2) (false, k))) hLW h ?_ ?_
      · refine Ho_bind (e_sortOut hN hci) fun s ⟨u1', u2', u3, u4, _⟩ => ?_
        refine Ho_some ⟨?_, u4, u3.2.2.2⟩
        show ushr (gi s 44 12) (zI (k : Int)) &&& 1 = _
        rw [w_bit (by omega)]
        congr 1
        exact u1'.1 k (by omega)
      · rw [(r_knownB (e := false) hN hkw (Or.inl ⟨rfl, by simp only; omega⟩)).1 rfl, Option.bind_some]
        cases knownB (τ.1 2) (false, k) <;> rfl
    · rw [if_neg q2, if_neg q2]
      exact hb
  · rw [if_neg q1, if_neg q1]
    exact hb
theorem e_inWatch {N k0 n0 : Nat} {σ : qMem} {n w : Int} {u : Int32} {f : Nat → Int} (hN : 200000 ≤ N) (hn : gi σ k0 3 = zI n) (hw : gi σ k0 0 = zI 3) (n0' : 0 ≤ n) (n1 : n ≤ 24) (hn2 : 3 * n ≤ n0) (hf : ∀ k : Nat, (k : Int) < n → gi σ (k0 + 1) (3 * k + 1) = zI (f k) ∧ 0 ≤ f k ∧ f k ≤ 23) (w0 : 0 ≤ w) (w1 : w ≤ 5) :
    fX11_inWatch N k0 n0 (zI w) u σ = some (zI (fb_ct (fun k => decide (f k / 4 = w) && !bt u k) n.toNat)) := by
  suffices h : Ho (fX11_inWatch N k0 n0 (zI w) u σ) (fun r => r = zI (fb_ct (fun k => decide (f k / 4 = w) && !bt u k) n.toNat)) by
    obtain ⟨r, e, rfl⟩ := h
    exact e
  unfold fX11_inWatch
  rw [show (0 : Int32) = zI 0 from rfl]
  refine lp_for (S := Int) (R := Int32) (fun m i s => fX11_inWatch_l5 N k0 n0 σ m (zI w) u (zI s) (zI i)) (fun i s => 0 ≤ i ∧ s = fb_ct (fun k => decide (f k / 4 = w) && !bt u k) i.toNat) _ n ?_ ?_ N 0 0 (by omega) (by omega) ⟨by omega, rfl⟩
  · intro m s ⟨_, hs⟩
    show Ho (fX11_inWatch_s5 N k0 n0 _ _ _ _ _ _) _
    unfold fX11_inWatch_s5
    rw [hn]
    simp (disch := omega) only [zI_le]
    rw [if_pos (by omega)]
    exact Ho_some (by rw [hs])
  · intro m i s hi ⟨i0, hs⟩ hc
    show Ho (fX11_inWatch_s5 N k0 n0 _ _ _ _ _ _) _
    obtain ⟨k, rfl⟩ : ∃ k : Nat, i = k := ⟨i.toNat, by omega⟩
    obtain ⟨f1, f2, f3⟩ := hf k hi
    unfold fX11_inWatch_s5 fX11_inWatch_b39
    have cn : (zI n ≤ zI (k : Int)) = False := by rw [zI_le (by omega) (by omega) (by omega) (by omega)]; exact eq_false (by omega)
    have at1 : fX8_at k0 n0 (zI (k : Int)) 1 σ = some (zI (f k)) := by
      have := e_at (σ := σ) (k := k0) (n := n0) (w := 3) (s := n) (i := k) (col := 1) hw hn (by omega) hi (by omega) (by omega) (by omega) (by omega) (by omega)
      rw [show ((k : Int) * 3 + 1).toNat = 3 * k + 1 by omega, f1] at this
      exact this
    have dv : zI (f k) / 4 = zI (f k / 4) := zI_divp (b := 4) f2 (by omega) (by omega) (by omega)
    have kn1 : zI (k : Int) + 1 = zI ((k : Int) + 1) := zI_add _ 1
    have sn1 : zI s + 1 = zI (s + 1) := zI_add _ 1
    have deq : (zI (f k / 4) = zI w) = (f k / 4 = w) := zI_eq (by omega) (by omega) (by omega) (by omega)
    rw [hn]
    simp only [cn, if_false, at1, Option.bind_some, dv, deq, kn1, sn1, w_bit (show k < 32 by omega), if_bI]
    have st : ∀ s' : Int, s' = s + (if decide (f k / 4 = w) && !bt u k then 1 else 0) → Ho (fX11_inWatch_l5 N k0 n0 σ m (zI w) u (zI s') (zI ((k : Int) + 1))) (fun r => r = zI (fb_ct (fun k => decide (f k / 4 = w) && !bt u k) n.toNat)) := by
      intro s' hs'
      refine hc s' ⟨by omega, ?_⟩
      rw [hs', hs, show ((k : Int) + 1).toNat = k + 1 by omega, show ((k : Int)).toNat = k by omega, fb_ct_succ]
      cases decide (f k / 4 = w) && !bt u k <;> simp
    by_cases q : f k / 4 = w
    · rw [if_pos q]
      by_cases q2 : bt u k = true
      · rw [if_pos q2]
        exact st s (by rw [q2]; simp)
      · rw [if_neg q2]
        rw [Bool.not_eq_true] at q2
        exact st (s + 1) (by rw [q2, decide_eq_true q]; simp)
    · rw [if_neg q]
      exact st s (by rw [decide_eq_false q]; simp)
theorem r_watch {N : Nat} {τ : qMem} {e : Bool} {w what : Int} {nw : Bool} (hN : 200000 ≤ N) (hkw : KW (τ.1 2)) (w0 : 0 ≤ w) (w1 : w ≤ 5) (hwh : what = (if e then 2 else 0) + (if nw then 1 else 0)) :
    fX12_watch N (zI w) (zI what) τ = some (zI (fb_ct (fun k => decide (itF (τ.1 2) (e, k) 1 / 4 = w) && !(nw && knownB (τ.1 2) (e, k))) (kI (τ.1 2) (if e then 301 else 300)).toNat)) := by
  have kh := hkw.2.2.1
  have ke := hkw.2.2.2.1
  have n1 := kh.1
  have n2 := ke.1
  have g300 : gi τ 2 (300 : Int32).toNatClampNeg = zI (kI (τ.1 2) 300) := (zI_of _).symm
  have g301 : gi τ 2 (301 : Int32).toNatClampNeg = zI (kI (τ.1 2) 301) := (zI_of _).symm
  have c300 : (ck (300 : Int32) 1112 = true) = True := by decide
  have c301 : (ck (301 : Int32) 1112 = true) = True := by decide
  have wr : 0 ≤ what ∧ what ≤ 3 := by cases e <;> cases nw <;> simp at hwh <;> omega
  suffices h : Ho (fX12_watch N (zI w) (zI what) τ) (fun r => r = zI (fb_ct (fun k => decide (itF (τ.1 2) (e, k) 1 / 4 = w) && !(nw && knownB (τ.1 2) (e, k))) (kI (τ.1 2) (if e then 301 else 300)).toNat)) by
    obtain ⟨r, e, rfl⟩ := h
    exact e
  unfold fX12_watch
  have i1 : fX12_in (zI w) 0 5 = some (bI (decide (0 ≤ w ∧ w ≤ 5))) := e_in (b := 0) (c := 5) (by omega) (by omega) (by omega) (by omega) (by omega) (by omega)
  have i2 : fX12_in (zI what) 0 3 = some (bI (decide (0 ≤ what ∧ what ≤ 3))) := e_in (b := 0) (c := 3) (by omega) (by omega) (by omega) (by omega) (by omega) (by omega)
  rw [i1, Option.bind_some, decide_eq_true ⟨w0, w1⟩, bI_t, if_neg (by decide), i2, Option.bind_some, decide_eq_true wr, bI_t, if_neg (by decide)]
  obtain ⟨N', rfl⟩ : ∃ m, N = m + 1 := ⟨N - 1, by omega⟩
  generalize hNN : N' + 1 = N at *
  cases e
  · have hlt : what ≤ 1 := by cases nw <;> simp at hwh <;> omega
    have c2 : (2 ≤ zI what) = False := by rw [zl_2, zI_le (by omega) (by omega) (by omega) (by omega)]; exact eq_false (by omega)
    have c1 : (zI what ≤ 1) = True := by rw [zl_1, zI_le (by omega) (by omega) (by omega) (by omega)]; exact eq_true (by omega)
    have c0 : (zI what = 0) = (nw = false) := by
      rw [zI_0 (by omega) (by omega)]
      cases nw <;> simp at hwh <;> subst hwh <;> simp
    rw [show fX12_watch_l25 N τ N (zI w) (zI what) 0 0 = fX12_watch_l25 N τ N (zI w) (zI what) (zI 0) (zI 0) from rfl]
    refine lp_for (S := Int) (R := Int32) (fun m i s => fX12_watch_l25 N τ m (zI w) (zI what) (zI s) (zI i)) (fun i s => 0 ≤ i ∧ s = fb_ct (fun k => decide (itF (τ.1 2) (false, k) 1 / 4 = w) && !(nw && knownB (τ.1 2) (false, k))) i.toNat) _ (kI (τ.1 2) 300) ?_ ?_ N 0 0 (by omega) (by omega) ⟨by omega, rfl⟩
    · intro m s ⟨_, hs⟩
      show Ho (fX12_watch_s25 N _ _ _ _ _ _) _
      unfold fX12_watch_s25 fX12_watch_b83
      have cn : (zI (kI (τ.1 2) 300) ≤ zI (kI (τ.1 2) 300)) = True := by rw [zI_le (by omega) (by omega) (by omega) (by omega)]; exact eq_true (by omega)
      simp only [c300, if_true, g300, cn]
      rw [← hNN]
      show Ho (fX12_watch_s86 (N' + 1) _ _ _ _ _ _) _
      unfold fX12_watch_s86
      simp only [c301, if_true, g301, c1]
      have : (if zI (kI (τ.1 2) 301) ≤ 0 then some (zI s) else some (zI s)) = some (zI s) := by split <;> rfl
      rw [this]
      exact Ho_some (by rw [hs]; rfl)
    · intro m i s hi ⟨i0, hs⟩ hc
      show Ho (fX12_watch_s25 N _ _ _ _ _ _) _
      obtain ⟨k, rfl⟩ : ∃ k : Nat, i = k := ⟨i.toNat, by omega⟩
      have kr := kh.2 k (by omega) hi
      unfold fX12_watch_s25 fX12_watch_b70 fX12_watch_b74 fX12_watch_b75
      have cn : (zI (kI (τ.1 2) 300) ≤ zI (k : Int)) = False := by rw [zI_le (by omega) (by omega) (by omega) (by omega)]; exact eq_false (by omega)
      have hh : fX12_heardOf (zI (k : Int)) 1 τ = some (zI (itF (τ.1 2) (false, k) 1)) := r_heardOf (f := 1) (by omega) (by omega) (by omega) (by omega)
      have hk := (r_knownB (e := false) (k := k) hN hkw (Or.inl ⟨rfl, by simp only; omega⟩)).1 rfl
      have er : itF (τ.1 2) (false, k) 1 = kI (τ.1 2) (80 + 3 * (k : Int) + 1) := rfl
      have dv : zI (itF (τ.1 2) (false, k) 1) / 4 = zI (itF (τ.1 2) (false, k) 1 / 4) := zI_divp (b := 4) (by omega) (by omega) (by omega) (by omega)
      have deq : (zI (itF (τ.1 2) (false, k) 1 / 4) = zI w) = (itF (τ.1 2) (false, k) 1 / 4 = w) := zI_eq (by omega) (by omega) (by omega) (by omega)
      have kn1 : zI (k : Int) + 1 = zI ((k : Int) + 1) := zI_add _ 1
      have sn1 : zI s + 1 = zI (s + 1) := zI_add _ 1
      have sn0 : zI s + 0 = zI (s + 0) := zI_add _ 0
      simp only [c300, if_true, g300, cn, if_false, c2, hh, Option.bind_some, dv, deq, c0, hk, if_bI, kn1, sn1, sn0]
      have st : ∀ s' : Int, s' = s + (if decide (itF (τ.1 2) (false, k) 1 / 4 = w) && !(nw && knownB (τ.1 2) (false, k)) then 1 else 0) → Ho (fX12_watch_l25 N τ m (zI w) (zI what) (zI s') (zI ((k : Int) + 1))) (fun r => r = zI (fb_ct (fun k => decide (itF (τ.1 2) (false, k) 1 / 4 = w) && !(nw && knownB (τ.1 2) (false, k))) (kI (τ.1 2) (if false = true then 301 else 300)).toNat)) := by
        intro s' hs'
        refine hc s' ⟨by omega, ?_⟩
        rw [hs', hs, show ((k : Int) + 1).toNat = k + 1 by omega, show ((k : Int)).toNat = k by omega, fb_ct_succ]
        cases decide (itF (τ.1 2) (false, k) 1 / 4 = w) && !(nw && knownB (τ.1 2) (false, k)) <;> simp
      by_cases q : itF (τ.1 2) (false, k) 1 / 4 = w
      · rw [if_pos q]
        cases nw
        · rw [if_pos rfl]
          exact st (s + 1) (by rw [decide_eq_true q]; simp)
        · rw [if_neg (by simp)]
          cases hz : knownB (τ.1 2) (false, k)
          · rw [if_neg (by simp)]
            exact st (s + 1) (by rw [decide_eq_true q, hz]; simp)
          · rw [if_pos rfl]
            exact st (s + 0) (by rw [hz]; simp)
      · rw [if_neg q]
        exact st (s + 0) (by rw [decide_eq_false q]; simp)
  · have hlt : 2 ≤ what := by cases nw <;> simp at hwh <;> omega
    have c2 : (2 ≤ zI what) = True := by rw [zl_2, zI_le (by omega) (by omega) (by omega) (by omega)]; exact eq_true (by omega)
    have c1 : (zI what ≤ 1) = False := by rw [zl_1, zI_le (by omega) (by omega) (by omega) (by omega)]; exact eq_false (by omega)
    have c0 : (zI what = 2) = (nw = false) := by
      rw [zl_2, zI_eq (by omega) (by omega) (by omega) (by omega)]
      cases nw <;> simp at hwh <;> subst hwh <;> simp
    rw [← hNN]
    show Ho (fX12_watch_s25 (N' + 1) _ _ _ _ _ _) _
    rw [hNN]
    unfold fX12_watch_s25 fX12_watch_b83
    simp only [c300, if_true, g300, c2]
    have : (if zI (kI (τ.1 2) 300) ≤ 0 then fX12_watch_l86 N τ N (zI w) (zI what) 0 0 else fX12_watch_l86 N τ N (zI w) (zI what) 0 0) = fX12_watch_l86 N τ N (zI w) (zI what) (zI 0) (zI 0) := by split <;> rfl
    rw [this]
    refine lp_for (S := Int) (R := Int32) (fun m i s => fX12_watch_l86 N τ m (zI w) (zI what) (zI s) (zI i)) (fun i s => 0 ≤ i ∧ s = fb_ct (fun k => decide (itF (τ.1 2) (true, k) 1 / 4 = w) && !(nw && knownB (τ.1 2) (true, k))) i.toNat) _ (kI (τ.1 2) 301) ?_ ?_ N 0 0 (by omega) (by omega) ⟨by omega, rfl⟩
    · intro m s ⟨_, hs⟩
      show Ho (fX12_watch_s86 N _ _ _ _ _ _) _
      unfold fX12_watch_s86
      have cn : (zI (kI (τ.1 2) 301) ≤ zI (kI (τ.1 2) 301)) = True := by rw [zI_le (by omega) (by omega) (by omega) (by omega)]; exact eq_true (by omega)
      simp only [c301, if_true, g301, cn]
      exact Ho_some (by rw [hs])
    · intro m i s hi ⟨i0, hs⟩ hc
      show Ho (fX12_watch_s86 N _ _ _ _ _ _) _
      obtain ⟨k, rfl⟩ : ∃ k : Nat, i = k := ⟨i.toNat, by omega⟩
      have kr := ke.2 k (by omega) hi
      unfold fX12_watch_s86 fX12_watch_b132 fX12_watch_b136 fX12_watch_b137
      have cn : (zI (kI (τ.1 2) 301) ≤ zI (k : Int)) = False := by rw [zI_le (by omega) (by omega) (by omega) (by omega)]; exact eq_false (by omega)
      have hh : fX12_echoOf (zI (k : Int)) 1 τ = some (zI (itF (τ.1 2) (true, k) 1)) := r_echoOf (f := 1) (by omega) (by omega) (by omega) (by omega)
      have hk := (r_knownB (e := true) (k := k) hN hkw (Or.inr ⟨rfl, by simp only; omega⟩)).2 rfl
      have er : itF (τ.1 2) (true, k) 1 = kI (τ.1 2) (152 + 3 * (k : Int) + 1) := rfl
      have dv : zI (itF (τ.1 2) (true, k) 1) / 4 = zI (itF (τ.1 2) (true, k) 1 / 4) := zI_divp (b := 4) (by omega) (by omega) (by omega) (by omega)
      have deq : (zI (itF (τ.1 2) (true, k) 1 / 4) = zI w) = (itF (τ.1 2) (true, k) 1 / 4 = w) := zI_eq (by omega) (by omega) (by omega) (by omega)
      have kn1 : zI (k : Int) + 1 = zI ((k : Int) + 1) := zI_add _ 1
      have sn1 : zI s + 1 = zI (s + 1) := zI_add _ 1
      have sn0 : zI s + 0 = zI (s + 0) := zI_add _ 0
      simp only [c301, if_true, g301, cn, if_false, c1, hh, Option.bind_some, dv, deq, c0, hk, if_bI, kn1, sn1, sn0]
      have st : ∀ s' : Int, s' = s + (if decide (itF (τ.1 2) (true, k) 1 / 4 = w) && !(nw && knownB (τ.1 2) (true, k)) then 1 else 0) → Ho (fX12_watch_l86 N τ m (zI w) (zI what) (zI s') (zI ((k : Int) + 1))) (fun r => r = zI (fb_ct (fun k => decide (itF (τ.1 2) (true, k) 1 / 4 = w) && !(nw && knownB (τ.1 2) (true, k))) (kI (τ.1 2) (if true = true then 301 else 300)).toNat)) := by
        intro s' hs'
        refine hc s' ⟨by omega, ?_⟩
        rw [hs', hs, show ((k : Int) + 1).toNat = k + 1 by omega, show ((k : Int)).toNat = k by omega, fb_ct_succ]
        cases decide (itF (τ.1 2) (true, k) 1 / 4 = w) && !(nw && knownB (τ.1 2) (true, k)) <;> simp
      by_cases q : itF (τ.1 2) (true, k) 1 / 4 = w
      · rw [if_pos q]
        cases nw
        · rw [if_pos rfl]
          exact st (s + 1) (by rw [decide_eq_true q]; simp)
        · rw [if_neg (by simp)]
          cases hz : knownB (τ.1 2) (true, k)
          · rw [if_neg (by simp)]
            exact st (s + 1) (by rw [decide_eq_true q, hz]; simp)
          · rw [if_pos rfl]
            exact st (s + 0) (by rw [hz]; simp)
      · rw [if_neg q]
        exact st (s + 0) (by rw [decide_eq_false q]; simp)
theorem bt_0 (k : Nat) : bt 0 k = false := b_0 k
theorem b_watch {LW : LWt} {c N : Nat} {σ τ : qMem} (hN : 200000 ≤ N) (hLW : LWc LW) (h : Inv LW c σ τ) (p1 p2 : Int32) : BothCr LW c τ (fX11_watch N p1 p2 σ) (fX12_watch N p1 p2 τ) := by
  obtain ⟨a1, l1, u1, rfl⟩ := zI_ex p1
  obtain ⟨a2, l2, u2, rfl⟩ := zI_ex p2
  have hkw := Inv_KW h
  have hci := Inv_CI h
  by_cases q1 : 0 ≤ a1 ∧ a1 ≤ 5
  · by_cases q2 : 0 ≤ a2 ∧ a2 ≤ 3
    · obtain ⟨e, nw, hwh⟩ : ∃ e nw : Bool, a2 = (if e then 2 else 0) + (if nw then 1 else 0) := by
        rcases (by omega : a2 = 0 ∨ a2 = 1 ∨ a2 = 2 ∨ a2 = 3) with q | q | q | q
        · exact ⟨false, false, by simp [q]⟩
        · exact ⟨false, true, by simp [q]⟩
        · exact ⟨true, false, by simp [q]⟩
        · exact ⟨true, true, by simp [q]⟩
      rw [r_watch hN hkw q1.1 q1.2 hwh]
      refine both_qr hLW h ?_ rfl
      unfold fX11_watch
      have i1 : fX11_isIn (zI a1) 0 5 = some (bI (decide (0 ≤ a1 ∧ a1 ≤ 5))) := e_isIn (b := 0) (c := 5) (by omega) (by omega) (by omega) (by omega) (by omega) (by omega)
      have i2 : fX11_isIn (zI a2) 0 3 = some (bI (decide (0 ≤ a2 ∧ a2 ≤ 3))) := e_isIn (b := 0) (c := 3) (by omega) (by omega) (by omega) (by omega) (by omega) (by omega)
      rw [i1, Option.bind_some, decide_eq_true q1, bI_t, if_neg (by decide), i2, Option.bind_some, decide_eq_true q2, bI_t, if_neg (by decide)]
      refine Ho_bind (e_sortOut hN hci) fun s ⟨w1, w2, w3, w4, _⟩ => ?_
      obtain ⟨sb, sk, _, scc⟩ := w3
      have kh := hkw.2.2.1
      have ke := hkw.2.2.2.1
      have n1 := kh.1
      have n2 := ke.1
      have hrm : irm (zI a2) 2 = zI (a2 % 2) := zI_rem (b := 2) q2.1 (by omega) (by omega) (by omega)
      rw [hrm]
      have c1 : (zI (a2 % 2) = 1) = (nw = true) := by
        rw [zl_1, zI_eq (by omega) (by omega) (by omega) (by omega)]
        cases e <;> cases nw <;> simp at hwh <;> subst hwh <;> simp
      have c2 : (2 ≤ zI a2) = (e = true) := by
        rw [zl_2, zI_le (by omega) (by omega) (by omega) (by omega)]
        cases e <;> cases nw <;> simp at hwh <;> subst hwh <;> simp
      unfold fX11_watch_b39 fX11_watch_b95 fX11_watch_b68
      simp only [c1, c2]
      have hH : ∀ u : Int32, fX11_inWatch N 19 72 (zI a1) u s = some (zI (fb_ct (fun k => decide (itF (τ.1 2) (false, k) 1 / 4 = a1) && !bt u k) (kI (τ.1 2) 300).toNat)) := fun u => e_inWatch (f := fun k => itF (τ.1 2) (false, k) 1) hN (sk.2.2.2.2.1.1.trans (zI_of _).symm) sb.2.2.1.1 n1.1 n1.2 (by omega) (fun k hk => by
        have kr := kh.2 k (by omega) hk
        refine ⟨?_, kr.2.1.1, kr.2.1.2⟩
        refine (sk.2.2.2.2.1.2 _ (by omega)).trans ((zI_of _).symm.trans ?_)
        rw [itF_h]
        unfold kI
        rw [show (80 + 3 * (k : Int) + 1).toNat = 80 + (3 * k + 1) by omega]) q1.1 q1.2
      have hE : ∀ u : Int32, fX11_inWatch N 21 36 (zI a1) u s = some (zI (fb_ct (fun k => decide (itF (τ.1 2) (true, k) 1 / 4 = a1) && !bt u k) (kI (τ.1 2) 301).toNat)) := fun u => e_inWatch (f := fun k => itF (τ.1 2) (true, k) 1) hN (sk.2.2.2.2.2.1.1.trans (zI_of _).symm) sb.2.2.2.1.1 n2.1 (by omega) (by omega) (fun k hk => by
        have kr := ke.2 k (by omega) hk
        refine ⟨?_, kr.2.1.1, kr.2.1.2⟩
        refine (sk.2.2.2.2.2.1.2 _ (by omega)).trans ((zI_of _).symm.trans ?_)
        rw [itF_e]
        unfold kI
        rw [show (152 + 3 * (k : Int) + 1).toNat = 152 + (3 * k + 1) by omega]) q1.1 q1.2
      have one0 : ¬ ((1 : Int32) = 0) := by decide
      cases e
      · cases nw
        · simp only [Bool.false_eq_true, if_false, if_true, hH, Option.bind_some]
          refine Ho_some ⟨?_, w4, scc⟩
          show zI _ = zI _
          congr 2
          apply fb_ct_cong
          intro k _
          rw [bt_0]
          simp
        · simp only [Bool.false_eq_true, if_false, if_true, one0, hH, Option.bind_some]
          refine Ho_some ⟨?_, w4, scc⟩
          show zI _ = zI _
          congr 2
          apply fb_ct_cong
          intro k hk
          rw [show bt (gi s 44 12) k = _ from w1.1 k (by simp at hk; omega)]
          simp
      · cases nw
        · simp only [Bool.false_eq_true, if_false, if_true, hE, Option.bind_some]
          refine Ho_some ⟨?_, w4, scc⟩
          show zI _ = zI _
          congr 2
          apply fb_ct_cong
          intro k _
          rw [bt_0]
          simp
        · simp only [if_true, one0, if_false, hE, Option.bind_some]
          refine Ho_some ⟨?_, w4, scc⟩
          show zI _ = zI _
          congr 2
          apply fb_ct_cong
          intro k hk
          rw [show bt (gi s 44 13) k = _ from w1.2.1 k (by simp at hk; omega)]
          simp
    · have ec : fX11_watch N (zI a1) (zI a2) σ = some (zI (-1), σ) := by
        unfold fX11_watch
        have i1 : fX11_isIn (zI a1) 0 5 = some (bI (decide (0 ≤ a1 ∧ a1 ≤ 5))) := e_isIn (b := 0) (c := 5) (by omega) (by omega) (by omega) (by omega) (by omega) (by omega)
        have i2 : fX11_isIn (zI a2) 0 3 = some (bI (decide (0 ≤ a2 ∧ a2 ≤ 3))) := e_isIn (b := 0) (c := 3) (by omega) (by omega) (by omega) (by omega) (by omega) (by omega)
        rw [i1, Option.bind_some, decide_eq_true q1, bI_t, if_neg (by decide), i2, Option.bind_some, decide_eq_false q2, bI_f, if_pos rfl]
        rfl
      have em : fX12_watch N (zI a1) (zI a2) τ = some (zI (-1)) := by
        unfold fX12_watch
        have i1 : fX12_in (zI a1) 0 5 = some (bI (decide (0 ≤ a1 ∧ a1 ≤ 5))) := e_in (b := 0) (c := 5) (by omega) (by omega) (by omega) (by omega) (by omega) (by omega)
        have i2 : fX12_in (zI a2) 0 3 = some (bI (decide (0 ≤ a2 ∧ a2 ≤ 3))) := e_in (b := 0) (c := 3) (by omega) (by omega) (by omega) (by omega) (by omega) (by omega)
        rw [i1, Option.bind_some, decide_eq_true q1, bI_t, if_neg (by decide), i2, Option.bind_some, decide_eq_false q2, bI_f, if_pos rfl]
        rfl
      rw [ec, em]
      exact both_samer hLW h _
  · have ec : fX11_watch N (zI a1) (zI a2) σ = some (zI (-1), σ) := by
      unfold fX11_watch
      have i1 : fX11_isIn (zI a1) 0 5 = some (bI (decide (0 ≤ a1 ∧ a1 ≤ 5))) := e_isIn (b := 0) (c := 5) (by omega) (by omega) (by omega) (by omega) (by omega) (by omega)
      rw [i1, Option.bind_some, decide_eq_false q1, bI_f, if_pos rfl]
      rfl
    have em : fX12_watch N (zI a1) (zI a2) τ = some (zI (-1)) := by
      unfold fX12_watch
      have i1 : fX12_in (zI a1) 0 5 = some (bI (decide (0 ≤ a1 ∧ a1 ≤ 5))) := e_in (b := 0) (c := 5) (by omega) (by omega) (by omega) (by omega) (by omega) (by omega)
      rw [i1, Option.bind_some, decide_eq_false q1, bI_f, if_pos rfl]
      rfl
    rw [ec, em]
    exact both_samer hLW h _
theorem fresh_sum {κ : Nat → Int32} {L : List (Bool × Nat)} (h : ∀ it, it ∈ L → itF κ it 0 = 0 ∨ itF κ it 0 = 1) : (freshL κ 0 L).length + (freshL κ 1 L).length = L.length := by
  induction L with
  | nil => rfl
  | cons a l ih =>
    have ih := ih (fun it hit => h it (List.mem_cons_of_mem _ hit))
    unfold freshL at *
    rcases h a (List.mem_cons_self ..) with q | q
    · simp only [List.filter_cons, q, decide_true, if_true, List.length_cons]
      simp
      omega
    · simp only [List.filter_cons, q, decide_true, if_true, List.length_cons]
      simp
      omega
theorem RC_news {t t' : Nat → Nat → Int32} {κ : Nat → Int32} (h : RC t κ) (hn : newsOK t' κ) (hf : ∀ k j, k ≠ 6 → ¬ (k = 0 ∧ j = 10) → t' k j = t k j) : RC t' κ := by
  obtain ⟨a, b, c, d, e, f⟩ := h
  have e2 := hf 0 2 (by omega) (by omega)
  have e7 := hf 0 7 (by omega) (by omega)
  have e13 := hf 0 13 (by omega) (by omega)
  have e15 := hf 0 15 (by omega) (by omega)
  unfold RC
  rw [e2, e7, e13, e15]
  exact ⟨a, b, c, fun z => carrOK_c (fun j => hf 5 j (by omega) (by omega)) (d z), fun z => fitsOK_c (fun k j hh => hf k j (by omega) (by omega)) (e z), fun z => ⟨missOK_c (fun j => hf 8 j (by omega) (by omega)) (f z).1, hn⟩⟩
theorem SM_news {τ t : qMem} (h : ∀ k j, k ≠ 6 → ¬ (k = 0 ∧ j = 10) → gi t k j = gi τ k j) : SM τ t := fun k j hk => h k j (by unfold scrM at hk; omega) (by unfold scrM at hk; omega)
set_option maxHeartbeats 4000000 in
theorem b_count {LW : LWt} {c N : Nat} {σ τ : qMem} (hN : 200000 ≤ N) (hLW : LWc LW) (h : Inv LW c σ τ) (p1 : Int32) : Both LW c (fX11_count N p1 σ) (fX12_count N p1 τ) := by
  obtain ⟨a, l1, u1, rfl⟩ := zI_ex p1
  have hkw := Inv_KW h
  have hci := Inv_CI h
  have h0 := h
  obtain ⟨v, s1, s2, s3, s4, bk, kw, lw, im, tp, ms, rf, cc, rc, wo⟩ := h
  obtain ⟨t1, t2, t3, t4, t5, t6, t7, t8, t9, t10, t11, t12, t13⟩ := bk
  have ckT : ∀ n : Nat, n < 1112 → (ck (nI n) 1112 = true) = True := fun n hn => by
    rw [nI_zI]; exact zI_ckT (by omega) (by omega) (by omega)
  have d : ∀ n : Int, -2147483648 ≤ n → n < 2147483648 → (zI a = zI n) = (a = n) := fun n x y => zI_eq l1 u1 x y
  have gg : ∀ n : Nat, n < 1112 → gi τ 2 (nI n).toNatClampNeg = τ.1 2 n := fun n hn => by
    rw [nI_clamp (by omega)]; rfl
  have b235 : ∀ x : Int, 9 ≤ x → x ≤ 13 → fX11_count_b235 N (zI x) σ = some (gi σ 87 (x - 9).toNat, σ) := by
    intro x x0 x1
    unfold fX11_count_b235
    simp (disch := omega) only [zl_9, zl_13, e_isIn, Option.bind_some, if_bI, decide_eq_true_eq, zI_sub, zI_ckT, zI_clamp, if_true]
    rw [if_pos ⟨x0, x1⟩]
  have b161 : ∀ x : Int, 9 ≤ x → x ≤ 11 → fX12_count_b161 N (zI x) τ = some (gi τ 1 (x - 8).toNat, τ) := by
    intro x x0 x1
    unfold fX12_count_b161
    simp (disch := omega) only [zl_8, zI_sub, zI_ckT, zI_clamp, if_true]
  obtain ⟨r1, r2, r3, r4, r5⟩ := rf
  by_cases hr : 0 ≤ a ∧ a ≤ 16
  · have cs : a = 0 ∨ a = 1 ∨ a = 2 ∨ a = 3 ∨ a = 4 ∨ a = 5 ∨ a = 6 ∨ a = 7 ∨ a = 8 ∨ a = 9 ∨ a = 10 ∨ a = 11 ∨ a = 12 ∨ a = 13 ∨ a = 14 ∨ a = 15 ∨ a = 16 := by omega
    rcases cs with rfl | rfl | rfl | rfl | rfl | rfl | rfl | rfl | rfl | rfl | rfl | rfl | rfl | rfl | rfl | rfl | rfl
    · show Both LW c (some (gi σ 19 3, σ)) (some (τ.1 2 300, τ))
      rw [show gi σ 19 3 = τ.1 2 300 from t5.1]; exact both_same hLW h0 _
    · show Both LW c (some (gi σ 21 3, σ)) (some (τ.1 2 301, τ))
      rw [show gi σ 21 3 = τ.1 2 301 from t6.1]; exact both_same hLW h0 _
    · show Both LW c (some (gi σ 23 3, σ)) (some (τ.1 2 302, τ))
      rw [show gi σ 23 3 = τ.1 2 302 from t7.1]; exact both_same hLW h0 _
    · show Both LW c (some (gi σ 29 3, σ)) (some (τ.1 2 303, τ))
      rw [show gi σ 29 3 = τ.1 2 303 from t10.1]; exact both_same hLW h0 _
    · show Both LW c (some (gi σ 31 3, σ)) (some (τ.1 2 304, τ))
      rw [show gi σ 31 3 = τ.1 2 304 from t11.1]; exact both_same hLW h0 _
    · show Both LW c (some (gi σ 36 3, σ)) (some (τ.1 2 307, τ))
      rw [show gi σ 36 3 = τ.1 2 307 from t13]; exact both_same hLW h0 _
    · show Both LW c (some (gi σ 33 3, σ)) (some (τ.1 2 305, τ))
      rw [show gi σ 33 3 = τ.1 2 305 from t12.1]; exact both_same hLW h0 _
    · show Both LW c ((fX3_sortOut N σ).bind fun y9 => some (gi y9 46 3 + gi y9 48 3, y9)) ((fX12_laysNews N τ).bind fun y9 => some (gi y9 0 10, y9))
      refine both_q (v := zI (newsL (τ.1 2)).length) hLW h0 ?_ ?_
      · refine Ho_bind (e_sortOut hN hci) fun s ⟨w1, w2, w3, w4, _⟩ => ?_
        refine Ho_some ⟨?_, w4, w3.2.2.2⟩
        have f0 := (w1.2.2 0 (by omega)).1
        have f1 := (w1.2.2 1 (by omega)).1
        show gi s 46 3 + gi s 48 3 = _
        rw [show gi s 46 3 = _ from f0, show gi s 48 3 = _ from f1, zI_add]
        congr 1
        have := fresh_sum (κ := τ.1 2) (L := newsL (τ.1 2)) (fun it hit => by
          have := (it_rng hkw.2.2.1 hkw.2.2.2.1 (newsL_mem hit).1).1
          omega)
        rw [← this]
        simp
      · refine Ho_bind (r_laysNews hN rfl hkw) fun t ⟨w1, w2⟩ => ?_
        exact Ho_some ⟨w1.1, SM_news w2, RC_news (Inv_RC h0) w1 w2⟩
    · show Both LW c (some (gi σ 0 10, σ)) (some (gi τ 0 28, τ))
      rw [tp.1]; exact both_same hLW h0 _
    · show Both LW c (fX11_count_b235 N (zI 9) σ) (fX12_count_b161 N (zI 9) τ)
      rw [b235 9 (by omega) (by omega), b161 9 (by omega) (by omega), show gi σ 87 ((9 : Int) - 9).toNat = gi τ 1 1 from r1]; exact both_same hLW h0 _
    · show Both LW c (fX11_count_b235 N (zI 10) σ) (fX12_count_b161 N (zI 10) τ)
      rw [b235 10 (by omega) (by omega), b161 10 (by omega) (by omega), show gi σ 87 ((10 : Int) - 9).toNat = gi τ 1 2 from r2]; exact both_same hLW h0 _
    · show Both LW c (fX11_count_b235 N (zI 11) σ) (fX12_count_b161 N (zI 11) τ)
      rw [b235 11 (by omega) (by omega), b161 11 (by omega) (by omega), show gi σ 87 ((11 : Int) - 9).toNat = gi τ 1 3 from r3]; exact both_same hLW h0 _
    · show Both LW c (fX11_count_b235 N (zI 12) σ) (some (gi τ 1 5, τ))
      rw [b235 12 (by omega) (by omega), show gi σ 87 ((12 : Int) - 9).toNat = gi τ 1 5 from r4]; exact both_same hLW h0 _
    · show Both LW c (fX11_count_b235 N (zI 13) σ) (some (gi τ 1 6, τ))
      rw [b235 13 (by omega) (by omega), show gi σ 87 ((13 : Int) - 9).toNat = gi τ 1 6 from r5]; exact both_same hLW h0 _
    · show Both LW c (some (gi σ 25 3, σ)) (some (τ.1 2 308, τ))
      rw [show gi σ 25 3 = τ.1 2 308 from t8.1]; exact both_same hLW h0 _
    · show Both LW c (some (gi σ 27 3, σ)) (some (τ.1 2 309, τ))
      rw [show gi σ 27 3 = τ.1 2 309 from t9.1]; exact both_same hLW h0 _
    · show Both LW c (some (gi σ 15 2, σ)) (some (τ.1 2 310, τ))
      rw [show gi σ 15 2 = τ.1 2 310 from t3.1]; exact both_same hLW h0 _
  · unfold fX11_count fX12_count fX11_count_b235
    have nz : ∀ n : Int, 0 ≤ n → n ≤ 16 → (zI a = zI n) = False := fun n x y => by rw [zI_eq l1 u1 (by omega) (by omega)]; exact eq_false (by omega)
    have i1 : fX11_isIn (zI a) 9 13 = some (bI false) := by
      have := e_isIn (a := a) (b := 9) (c := 13) l1 u1 (by omega) (by omega) (by omega) (by omega)
      rw [decide_eq_false (by omega)] at this
      exact this
    have z0 : (zI a = 0) = False := nz 0 (by omega) (by omega)
    have z1 : (zI a = 1) = False := nz 1 (by omega) (by omega)
    have z2 : (zI a = 2) = False := nz 2 (by omega) (by omega)
    have z3 : (zI a = 3) = False := nz 3 (by omega) (by omega)
    have z4 : (zI a = 4) = False := nz 4 (by omega) (by omega)
    have z5 : (zI a = 5) = False := nz 5 (by omega) (by omega)
    have z6 : (zI a = 6) = False := nz 6 (by omega) (by omega)
    have z7 : (zI a = 7) = False := nz 7 (by omega) (by omega)
    have z8 : (zI a = 8) = False := nz 8 (by omega) (by omega)
    have z9 : (zI a = 9) = False := nz 9 (by omega) (by omega)
    have z10 : (zI a = 10) = False := nz 10 (by omega) (by omega)
    have z11 : (zI a = 11) = False := nz 11 (by omega) (by omega)
    have z12 : (zI a = 12) = False := nz 12 (by omega) (by omega)
    have z13 : (zI a = 13) = False := nz 13 (by omega) (by omega)
    have z14 : (zI a = 14) = False := nz 14 (by omega) (by omega)
    have z15 : (zI a = 15) = False := nz 15 (by omega) (by omega)
    have z16 : (zI a = 16) = False := nz 16 (by omega) (by omega)
    simp only [z0, z1, z2, z3, z4, z5, z6, z7, z8, z9, z10, z11, z12, z13, z14, z15, z16, if_false, i1, Option.bind_some, if_bI, Bool.false_eq_true]
    exact both_same hLW h0 _
