/-! traces -/
theorem rwB_out {κ : Nat → Int32} {H : Nat} {boat : Int} {i k : Nat} (h : H ≤ k ∨ H ≤ i) : rwB κ H boat i k = false := by
  unfold rwB
  rw [decide_eq_false (by omega), Bool.false_and]
theorem mb_H {κ : Nat → Int32} {H : Nat} {boat : Int} (hH : H ≤ 24) : mbN κ H boat 24 = mbN κ H boat H := by
  unfold mbN
  rw [show 24 = H + (24 - H) by omega, fb_ct_split]
  have : fb_ct (fun k => decide (H + k < H ∧ hdS κ (H + k) 0 = boat)) (24 - H) = 0 := fb_ct_zero.mpr (fun k _ => decide_eq_false (by omega))
  omega
/-- both draw the rows, and join -/
theorem sim_draw {N H : Nat} {κ : Nat → Int32} {σ τ : qMem} {boat : Int} (hN : 200000 ≤ N) (hκ : τ.1 2 = κ) (hw : KW κ) (hH : kI κ 300 = H) (hH24 : H ≤ 24) (h : hdK σ κ H) (b0 : 0 ≤ boat) (b1 : boat ≤ 1) :
    ∃ (v : Nat) (σ' t τ' : qMem), v ≤ 24 ∧ fX4_draw N (zI boat) σ = some σ' ∧ fX12_mays N (zI boat) (-1) (-1) τ = some t ∧ fX12_joins N t = some (zI v, τ') ∧ gi σ' 73 6 = zI v ∧ gi σ' 73 5 = zI (mbN κ H boat 24 : Nat) ∧ roR 74 H σ' τ' ∧ (∀ i, i < 24 → gi τ' 10 i = wd (rwB κ H boat i)) ∧ (∀ k j, ¬ (73 ≤ k ∧ k ≤ 76) → gi σ' k j = gi σ k j) ∧ mayF τ t ∧ jfM t τ' := by
  obtain ⟨s, e1, e2, e3, e4⟩ := e_rows (N := N) (σ := σ) (boat := boat) hN hw hH hH24 h b0 b1
  obtain ⟨t, f1, f2, f3⟩ := Ho_get (r_mays (N := N) (τ := τ) (boat := boat) (p := -1) (q := -1) hN hκ hw hH hH24 b0 b1 (by omega) (by omega) (by omega) (by omega))
  have f1' : fX12_mays N (zI boat) (-1) (-1) τ = some t := f1
  have rows : ∀ i, i < 24 → gi t 10 i = wd (rwB κ H boat i) := fun i hi => by rw [f2 i hi]; exact wd_congr (fun k _ => rwX_none)
  have ro : roR 74 H s t := ⟨fun i hi => by rw [e2 i hi, rows i hi], fun i k hi hk hh => by rw [rows i hi, bt_wd _ (by omega)]; exact rwB_out hh, by rw [f3 _ _ (by omega), ← hH, ← hκ]; exact (zI_of _).symm⟩
  obtain ⟨v, s', t', v1, v2, v3, v4, v5⟩ := sim_join hN (Or.inl rfl) hH24 ro
  refine ⟨v, si s' 73 6 (zI v), t, t', v1, ?_, f1', v3, ?_, ?_, ⟨fun i hi => ?_, fun i k hi hk hh => ?_, ?_⟩, fun i hi => ?_, fun k j hk => ?_, f3, v5⟩
  · rw [e1, v2, Option.bind_some]
  · rw [gi_si, if_pos ⟨rfl, rfl⟩]
  · rw [gi_si, if_neg (by omega), v4 _ _ (by omega)]; exact e3
  · rw [gi_si, if_neg (by omega), v4 _ _ (by omega), v5 _ _ (by omega)]; exact ro.1 i hi
  · rw [v5 _ _ (by omega)]; exact ro.2.1 i k hi hk hh
  · rw [v5 _ _ (by omega)]; exact ro.2.2
  · rw [v5 _ _ (by omega)]; exact rows i hi
  · rw [gi_si, if_neg (by omega), v4 _ _ (by omega)]; exact e4 k j (by omega)
theorem b_traces {LW : LWt} {c N : Nat} {σ τ : qMem} (hN : 200000 ≤ N) (hLW : LWc LW) (h : Inv LW c σ τ) (p1 : Int32) : Both LW c (fX11_traces N p1 σ) (fX12_traces N p1 τ) := by
  obtain ⟨b, l1, u1, rfl⟩ := zI_ex p1
  have kw := Inv_KW h
  have ci := Inv_CI h
  have kh := kw.2.2.1.1
  obtain ⟨H, hH⟩ : ∃ H : Nat, kI (τ.1 2) 300 = H := ⟨(kI (τ.1 2) 300).toNat, by omega⟩
  have hH24 : H ≤ 24 := by omega
  unfold fX11_traces fX12_traces
  rw [e_isBoat l1 u1, r_isBoat l1 u1, Option.bind_some, Option.bind_some, if_bI, if_bI]
  by_cases q : 0 ≤ b ∧ b ≤ 1
  · rw [if_pos (decide_eq_true q), if_pos (decide_eq_true q)]
    obtain ⟨v, σ', t, τ', v1, e1, e2, e3, g6, g5, ro, _, fc, ft, fm⟩ := sim_draw (N := N) (σ := σ) (τ := τ) (κ := τ.1 2) hN rfl kw hH hH24 (hdK_of ci hH) q.1 q.2
    have m24 : mbN (τ.1 2) H b 24 ≤ 24 := fb_ct_le _ _
    refine both_q (v := zI ((mbN (τ.1 2) H b 24 : Int) - v)) hLW h ?_ ?_
    · rw [e1, Option.bind_some, g5, g6, zI_sub]
      exact Ho_some ⟨rfl, fun k j hk => fc k j (by unfold scrC at hk; omega), CC_c (m := σ.1) (m' := σ'.1) (fun k j hk => fc k j (by omega)) ci.2.2.2⟩
    · rw [e2, Option.bind_some]
      have kt : t.1 2 = τ.1 2 := funext fun j => ft 2 j (by omega)
      have g300 : gi t 2 300 = zI H := by rw [ft _ _ (by omega), ← hH]; exact (zI_of _).symm
      have loop : ∀ (d i f : Nat), i + d = H → d < f → fX12_traces_l20 N f (zI b) (zI (mbN (τ.1 2) H b i : Nat)) (zI i) t = some (zI ((mbN (τ.1 2) H b H : Int) - v), τ') := by
        intro d
        induction d with
        | zero =>
          intro i f hi hf
          obtain ⟨f, rfl⟩ : ∃ x, f = x + 1 := ⟨f - 1, by omega⟩
          have : i = H := by omega
          subst this
          show fX12_traces_s20 N _ _ _ (zI i) t = _
          unfold fX12_traces_s20
          have c1 : (zI (i : Int) ≤ zI (i : Int)) = True := by rw [zI_le (by omega) (by omega) (by omega) (by omega)]; exact eq_true (by omega)
          rw [if_pos (by decide), show (300 : Int32).toNatClampNeg = 300 from rfl, g300]
          simp only [c1, if_true, e3, Option.bind_some, zI_sub]
        | succ d ih =>
          intro i f hi hf
          obtain ⟨f, rfl⟩ : ∃ x, f = x + 1 := ⟨f - 1, by omega⟩
          show fX12_traces_s20 N _ _ _ (zI i) t = _
          unfold fX12_traces_s20 fX12_traces_b48
          have c1 : (zI (H : Int) ≤ zI (i : Int)) = False := by rw [zI_le (by omega) (by omega) (by omega) (by omega)]; exact eq_false (by omega)
          have ri := hd_rng kw hH (show i < H by omega)
          have h0 : fX12_heardOf (zI (i : Int)) 0 t = _ := r_hdOf kt (i := i) (f := 0) (by omega) (by omega)
          have cb : (zI (hdS (τ.1 2) i 0) = zI b) = (hdS (τ.1 2) i 0 = b) := by rw [zI_eq (by omega) (by omega) (by omega) (by omega)]
          have m1 : mbN (τ.1 2) H b (i + 1) = mbN (τ.1 2) H b i + (if decide (i < H ∧ hdS (τ.1 2) i 0 = b) then 1 else 0) := rfl
          rw [if_pos (by decide), show (300 : Int32).toNatClampNeg = 300 from rfl, g300]
          simp only [c1, if_false, h0, Option.bind_some, cb]
          rw [show zI (i : Int) + 1 = zI ((i + 1 : Nat) : Int) by rw [show (1 : Int32) = zI 1 from rfl, zI_add]; rfl, ← ih (i + 1) f (by omega) (by omega), m1]
          by_cases qb : hdS (τ.1 2) i 0 = b
          · rw [if_pos qb, decide_eq_true ⟨by omega, qb⟩, show (1 : Int32) = zI 1 from rfl, zI_add]; rfl
          · rw [if_neg qb, decide_eq_false (fun z => qb z.2), show (0 : Int32) = zI 0 from rfl, zI_add]; rfl
      have := loop H 0 N (by omega) (by omega)
      have e0 : fX12_traces_l20 N N (zI b) 0 0 t = _ := this
      rw [e0, mb_H hH24]
      refine Ho_some ⟨rfl, fun k j hk => ?_, RC_c (t := τ.1) (t' := τ'.1) (fun k j hk => (fm k j (by omega)).trans (ft k j (by omega))) (Inv_RC h)⟩
      unfold scrM at hk
      exact (fm k j (by omega)).trans (ft k j (by omega))
  · rw [if_neg (by rw [decide_eq_false q]; decide), if_neg (by rw [decide_eq_false q]; decide)]
    exact both_same hLW h _
