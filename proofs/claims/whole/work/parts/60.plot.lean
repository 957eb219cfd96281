/-! the class plots the runs that fit -/
noncomputable def okAll (κ : Nat → Int32) (b s x y u v : Int) : Bool := (freshL κ b (newsL κ)).all (fun it => okB κ it s x y u v)
theorem miss0 (κ : Nat → Int32) (b s x y u v : Int) : missOf κ b s x y u v = 0 ↔ okAll κ b s x y u v = true := by
  unfold missOf okAll freshL
  rw [List.countP_eq_zero, List.all_eq_true]
  constructor
  · intro h it hit
    have hm := List.mem_filter.mp hit
    have := h it hm.1
    rw [hm.2] at this
    simpa using this
  · intro h it hit
    by_cases q : itF κ it 0 = b
    · have := h it (List.mem_filter.mpr ⟨hit, by simpa using q⟩)
      rw [this]
      simp
    · simp [q]
theorem all_take_succ {α : Type} {L : List α} {i : Nat} {a : α} (h : L[i]? = some a) (p : α → Bool) : (L.take (i + 1)).all p = ((L.take i).all p && p a) := by
  rw [List.take_add_one, h, List.all_append]
  simp
/-- lanes of a row, one bit function a pace north -/
def lanes (m : Nat → Nat → Int32) (k : Nat) (f : Nat → Nat → Bool) : Prop := ∀ v, v < 7 → m k v = wd (f v)
theorem e_narrow {N k1 b : Nat} {σ : qMem} {κ : Nat → Int32} {shift sheaf : Int} {f : Nat → Nat → Bool} (hN : 200000 ≤ N) (hs : seen σ.1 κ) (hk1 : k1 = 64 ∨ k1 = 65) (hb : b < 2) (l0 : -3 ≤ shift) (l1 : shift ≤ 3) (s0 : 0 ≤ sheaf) (s1 : sheaf < 224) (hf : lanes σ.1 k1 f) :
    Ho (fX3_narrow N k1 (zI b) (zI shift) (zI sheaf) σ) (fun a => lanes a.2.1 k1 (fun v y => f v y && okAll κ b shift (sheaf / 7) y (sheaf % 7 - 3) ((v : Int) - 3)) ∧ (∃ A : Bool, a.1 = bI A ∧ (A = false → ∀ v, v < 7 → gi a.2 k1 v = 0)) ∧ ∀ k j, k ≠ 62 → k ≠ 63 → k ≠ k1 → gi a.2 k j = gi σ k j) := by
  have hs0 := hs
  obtain ⟨bk, kw, fr, tu, r1, r2⟩ := hs
  have hlen := freshL_len κ b (newsL κ)
  have hl2 := newsL_len kw.2.2.1 kw.2.2.2.1
  have hsz := (fr b hb).1
  unfold fX3_narrow
  rw [show fX3_narrow_l6 N k1 N (zI (b : Int)) (zI shift) (zI sheaf) 1 0 σ = fX3_narrow_l6 N k1 N (zI (b : Int)) (zI shift) (zI sheaf) (bI true) (zI 0) σ from rfl]
  generalize hL : freshL κ b (newsL κ) = L at *
  refine lp_for (S := Bool × qMem) (R := Int32 × qMem) (fun n i s => fX3_narrow_l6 N k1 n (zI (b : Int)) (zI shift) (zI sheaf) (bI s.1) (zI i) s.2) (fun i s => 0 ≤ i ∧ lanes s.2.1 k1 (fun v y => f v y && (L.take i.toNat).all (fun it => okB κ it shift (sheaf / 7) y (sheaf % 7 - 3) ((v : Int) - 3))) ∧ (s.1 = false → ∀ v, v < 7 → gi s.2 k1 v = 0) ∧ ∀ k j, k ≠ 62 → k ≠ 63 → k ≠ k1 → gi s.2 k j = gi σ k j) _ L.length ?_ ?_ N 0 (true, σ) (by omega) (by omega) ?_
  · intro n s ⟨_, h1, h2, h3⟩
    show Ho (fX3_narrow_s6 N k1 _ _ _ _ _ _ _) _
    unfold fX3_narrow_s6
    have cb : (ck (zI (b : Int)) 2 = true) = True := zI_ckT (by omega) (by omega) (by omega)
    have zb : (zI (b : Int)).toNatClampNeg = b := by rw [zI_clamp (by omega) (by omega)]; omega
    have g3 : gi s.2 (46 + 2 * b) 3 = zI L.length := by rw [h3 _ _ (by omega) (by omega) (by omega)]; exact hsz
    have cn : (zI (L.length : Int) ≤ zI (L.length : Int)) = True := by rw [zI_le (by omega) (by omega) (by omega) (by omega)]; exact eq_true (by omega)
    simp only [cb, if_true, zb, g3, cn]
    rw [if_pos (bI_or _)]
    refine Ho_some ⟨?_, ⟨s.1, rfl, h2⟩, h3⟩
    unfold okAll
    rw [hL]
    have e : L.take ((L.length : Int).toNat) = L := by rw [show ((L.length : Int)).toNat = L.length by omega, List.take_length]
    rw [e] at h1
    exact h1
  · intro n i s hi ⟨i0, h1, h2, h3⟩ hc
    obtain ⟨acc, ρ⟩ := s
    simp only at h1 h2 h3
    show Ho (fX3_narrow_s6 N k1 _ _ _ _ _ _ _) _
    unfold fX3_narrow_s6
    have cb : (ck (zI (b : Int)) 2 = true) = True := zI_ckT (by omega) (by omega) (by omega)
    have zb : (zI (b : Int)).toNatClampNeg = b := by rw [zI_clamp (by omega) (by omega)]; omega
    have g3 : gi ρ (46 + 2 * b) 3 = zI L.length := by rw [h3 _ _ (by omega) (by omega) (by omega)]; exact hsz
    have cn : (zI (L.length : Int) ≤ zI i) = False := by rw [zI_le (by omega) (by omega) (by omega) (by omega)]; exact eq_false (by omega)
    simp only [cb, if_true, zb, g3, cn, if_false]
    cases acc
    · rw [bI_f, if_pos rfl, if_pos (Or.inl rfl)]
      refine Ho_some ⟨?_, ⟨false, rfl, fun _ => h2 rfl⟩, h3⟩
      intro v hv
      have hz := h2 rfl v hv
      have h1v := h1 v hv
      refine hz.trans ?_
      rw [← wd_zero]
      apply wd_congr
      intro y hy
      have z := h1v.symm.trans hz
      have zy := (wd_eq0 _).mp z y hy
      symm
      unfold okAll
      rw [hL]
      simp only at zy ⊢
      cases hf2 : f v y
      · rfl
      · rw [hf2, Bool.true_and] at zy
        rw [Bool.true_and]
        apply Bool.eq_false_iff.mpr
        intro ha
        rw [List.all_eq_true] at ha
        have : (L.take i.toNat).all (fun it => okB κ it shift (sheaf / 7) y (sheaf % 7 - 3) ((v : Int) - 3)) = true := by
          rw [List.all_eq_true]
          intro it hit
          exact ha it (List.mem_of_mem_take hit)
        rw [this] at zy
        cases zy
    · rw [bI_t, if_neg (by decide)]
      have hil : i.toNat < L.length := by omega
      obtain ⟨it, hit⟩ : ∃ it, L[i.toNat]? = some it := ⟨L[i.toNat], List.getElem?_eq_getElem hil⟩
      have hseen : seen ρ.1 κ := seen_c (m := σ.1) (m' := ρ.1) (fun k j q => h3 k j (by omega) (by omega) (by omega)) hs0
      have hit' : (freshL κ b (newsL κ))[i.toNat]? = some it := by rw [hL]; exact hit
      obtain ⟨a0, a1, a2⟩ := e_freshAt hseen hb hit'
      have hvd := fresh_mem hit'
      have rr := it_rng kw.2.2.1 kw.2.2.2.1 hvd.1
      rw [show ((i.toNat : Nat) : Int) = i by omega] at a1
      rw [show fX8_at (46 + 2 * b) 108 (zI i) 1 ρ = _ from a1, Option.bind_some, zI_add]
      have hlk := e_look (bell := itF κ it 1 + shift) hN hseen hb hit' (by omega) (by omega) s0 s1
      rw [show ((i.toNat : Nat) : Int) = i by omega] at hlk
      refine Ho_bind hlk fun ρ1 ⟨w1, w2⟩ => ?_
      rw [show fX3_narrow_l54 N k1 (fX3_narrow_l6 N k1 n) N (zI (b : Int)) (zI shift) (zI sheaf) 0 (zI i) 0 ρ1 = fX3_narrow_l54 N k1 (fX3_narrow_l6 N k1 n) N (zI (b : Int)) (zI shift) (zI sheaf) (bI false) (zI i) (zI 0) ρ1 from rfl]
      refine lp_for (S := Bool × qMem) (R := Int32 × qMem) (fun m v s => fX3_narrow_l54 N k1 (fX3_narrow_l6 N k1 n) m (zI (b : Int)) (zI shift) (zI sheaf) (bI s.1) (zI i) (zI v) s.2) (fun v s => 0 ≤ v ∧ (∀ w : Nat, w < 7 → gi s.2 k1 w = wd (fun y => f w y && (L.take (if (w : Int) < v then i.toNat + 1 else i.toNat)).all (fun it => okB κ it shift (sheaf / 7) y (sheaf % 7 - 3) ((w : Int) - 3)))) ∧ (s.1 = false → ∀ w : Nat, (w : Int) < v → gi s.2 k1 w = 0) ∧ (∀ k j, k ≠ 62 → k ≠ 63 → k ≠ k1 → gi s.2 k j = gi σ k j) ∧ ∀ j, gi s.2 63 j = gi ρ1 63 j) _ 7 ?_ ?_ N 0 (false, ρ1) (by omega) (by omega) ?_
      · intro m s ⟨_, g1, g2, g3', _⟩
        show Ho (fX3_narrow_s54 N k1 _ _ _ _ _ _ _ _ _) _
        unfold fX3_narrow_s54
        rw [if_pos (by decide), show zI i + 1 = zI (i + 1) from zI_add i 1]
        refine hc s ⟨by omega, fun v hv => ?_, fun z v hv => g2 z v (by omega), g3'⟩
        refine (g1 v hv).trans ?_
        rw [if_pos (by omega), show (i + 1).toNat = i.toNat + 1 by omega]
      · intro m v s hv ⟨v0, g1, g2, g3', g4⟩ hc2
        obtain ⟨ac, μ⟩ := s
        simp only at g1 g2 g3' g4
        show Ho (fX3_narrow_s54 N k1 _ _ _ _ _ _ _ _ _) _
        unfold fX3_narrow_s54 fX3_narrow_b92 fX3_narrow_b87 fX3_narrow_b92
        have c7 : (7 ≤ zI v) = False := by rw [zl_7, zI_le (by omega) (by omega) (by omega) (by omega)]; exact eq_false (by omega)
        have c77 : (ck (zI v) 7 = true) = True := zI_ckT v0 (by omega) (by omega)
        have z77 : (zI v).toNatClampNeg = v.toNat := zI_clamp v0 (by omega)
        have v1 : zI v + 1 = zI (v + 1) := zI_add v 1
        have ew : gi μ k1 v.toNat &&& gi μ 63 v.toNat = wd (fun y => f v.toNat y && (L.take (i.toNat + 1)).all (fun it => okB κ it shift (sheaf / 7) y (sheaf % 7 - 3) (((v.toNat : Nat) : Int) - 3))) := by
          rw [g1 _ (by omega), if_neg (by omega), g4, w1 _ (by omega), wd_and]
          apply wd_congr
          intro y _
          rw [all_take_succ hit, okB_F, Bool.and_assoc]
        simp only [c7, if_false, c77, if_true, z77, v1, nmM, ew]
        have gs : gi (si μ k1 v.toNat (wd (fun y => f v.toNat y && (L.take (i.toNat + 1)).all (fun it => okB κ it shift (sheaf / 7) y (sheaf % 7 - 3) (((v.toNat : Nat) : Int) - 3))))) k1 v.toNat = wd (fun y => f v.toNat y && (L.take (i.toNat + 1)).all (fun it => okB κ it shift (sheaf / 7) y (sheaf % 7 - 3) (((v.toNat : Nat) : Int) - 3))) := by rw [gi_si, if_pos ⟨rfl, rfl⟩]
        have fin : ∀ ac' : Bool, (ac' = false → ac = false ∧ wd (fun y => f v.toNat y && (L.take (i.toNat + 1)).all (fun it => okB κ it shift (sheaf / 7) y (sheaf % 7 - 3) (((v.toNat : Nat) : Int) - 3))) = 0) → Ho (fX3_narrow_l54 N k1 (fX3_narrow_l6 N k1 n) m (zI (b : Int)) (zI shift) (zI sheaf) (bI ac') (zI i) (zI (v + 1)) (si μ k1 v.toNat (wd (fun y => f v.toNat y && (L.take (i.toNat + 1)).all (fun it => okB κ it shift (sheaf / 7) y (sheaf % 7 - 3) (((v.toNat : Nat) : Int) - 3)))))) (fun a => lanes a.2.1 k1 (fun v y => f v y && okAll κ b shift (sheaf / 7) y (sheaf % 7 - 3) ((v : Int) - 3)) ∧ (∃ A : Bool, a.1 = bI A ∧ (A = false → ∀ v, v < 7 → gi a.2 k1 v = 0)) ∧ ∀ k j, k ≠ 62 → k ≠ 63 → k ≠ k1 → gi a.2 k j = gi σ k j) := by
          intro ac' hac
          refine hc2 (ac', _) ⟨by omega, fun w hw => ?_, fun z w hw => ?_, fun k j q1 q2 q3 => ?_, fun j => ?_⟩
          · show gi (si μ k1 v.toNat _) k1 w = _
            rw [gi_si]
            by_cases qw : w = v.toNat
            · rw [if_pos ⟨rfl, qw⟩, if_pos (by omega), qw]
            · rw [if_neg (by omega), g1 w hw]
              by_cases qq : (w : Int) < v
              · rw [if_pos qq, if_pos (by omega)]
              · rw [if_neg qq, if_neg (by omega)]
          · show gi (si μ k1 v.toNat _) k1 w = _
            rw [gi_si]
            by_cases qw : w = v.toNat
            · rw [if_pos ⟨rfl, qw⟩]; exact (hac z).2
            · rw [if_neg (by omega)]; exact g2 (hac z).1 w (by omega)
          · show gi (si μ k1 v.toNat _) k j = _
            rw [gi_si, if_neg (by omega)]; exact g3' k j q1 q2 q3
          · show gi (si μ k1 v.toNat _) 63 j = _
            rw [gi_si, if_neg (by omega)]; exact g4 j
        simp only [gs]
        cases ac
        · rw [bI_f, if_pos rfl]
          by_cases qz : wd (fun y => f v.toNat y && (L.take (i.toNat + 1)).all (fun it => okB κ it shift (sheaf / 7) y (sheaf % 7 - 3) (((v.toNat : Nat) : Int) - 3))) = 0
          · rw [if_pos qz]
            exact fin false (fun _ => ⟨rfl, qz⟩)
          · rw [if_neg qz]
            exact fin true (fun h => by cases h)
        · rw [bI_t, if_neg (by decide)]
          exact fin true (fun h => by cases h)
      · refine ⟨by omega, fun w hw => ?_, fun _ w hw => by omega, fun k j q1 q2 q3 => (w2 k j q1 q2).trans (h3 k j q1 q2 q3), fun _ => rfl⟩
        show gi ρ1 k1 w = _
        rw [w2 _ _ (by omega) (by omega), if_neg (by omega)]
        exact h1 w hw
  · refine ⟨by omega, ?_, ?_, fun _ _ _ _ _ => rfl⟩
    · intro v hv
      refine (hf v hv).trans ?_
      apply wd_congr
      intro y _
      simp
    · intro h
      cases h
theorem lane_dec {lane y : Nat} (h1 : lane < 1568) (h2 : y < 32) : laneR lane y / 1568 = lane / 49 ∧ laneR lane y / 49 % 32 = y ∧ laneR lane y / 7 % 7 = lane / 7 % 7 ∧ laneR lane y % 7 = lane % 7 ∧ laneR lane y < 50176 := by
  unfold laneR
  omega
theorem fitR_lane {κ : Nat → Int32} {sheaf : Int} {v y : Nat} (s0 : 0 ≤ sheaf) (s1 : sheaf < 224) (hv : v < 7) (hy : y < 32) : fitR κ (laneR (sheaf.toNat * 7 + v) y) = runB κ (sheaf / 7) y (sheaf % 7 - 3) ((v : Int) - 3) := by
  obtain ⟨e1, e2, e3, e4, _⟩ := lane_dec (lane := sheaf.toNat * 7 + v) (y := y) (by omega) hy
  unfold fitR
  rw [e1, e2, e3, e4]
  congr 1 <;> omega
theorem e_plotSheaf {N : Nat} {σ : qMem} {κ : Nat → Int32} {sheaf : Int} (hN : 200000 ≤ N) (hs : seen σ.1 κ) (s0 : 0 ≤ sheaf) (s1 : sheaf < 224) (hz : ∀ v, v < 7 → gi σ 61 (sheaf.toNat * 7 + v) = 0) :
    Ho (fX3_plotSheaf N (zI sheaf) σ) (fun τ => (∀ v, v < 7 → gi τ 61 (sheaf.toNat * 7 + v) = wd (fun y => fitR κ (laneR (sheaf.toNat * 7 + v) y))) ∧ (∀ j, ¬ (sheaf.toNat * 7 ≤ j ∧ j < sheaf.toNat * 7 + 7) → gi τ 61 j = gi σ 61 j) ∧ ∀ k j, k ≠ 61 → ¬ (62 ≤ k ∧ k ≤ 65) → gi τ k j = gi σ k j) := by
  have hs0 := hs
  obtain ⟨bk, kw, fr, tu, r1, r2⟩ := hs
  have hap := kw.2.1.2.2.1
  unfold fX3_plotSheaf
  refine Ho_bind (e_fill hN (by omega)) fun σ1 g1 => ?_
  have hs1 : seen σ1.1 κ := seen_c (m := σ.1) (m' := σ1.1) (fun k j q => by show gi σ1 k j = gi σ k j; rw [g1, if_neg (by omega)]) hs0
  have hn0 := e_narrow (N := N) (k1 := 64) (b := 0) (σ := σ1) (shift := 0) (f := fun _ _ => true) hN hs1 (Or.inl rfl) (by omega) (by omega) (by omega) s0 s1 (fun v hv => by
    show gi σ1 64 v = _
    rw [g1, if_pos ⟨rfl, by omega⟩]
    exact wd_m1.symm)
  refine Ho_bind hn0 fun a ⟨l1, ⟨A, eA, zA⟩, f1⟩ => ?_
  obtain ⟨a1, σ2⟩ := a
  simp only at l1 eA zA f1 ⊢
  have hs2 : seen σ2.1 κ := seen_c (m := σ1.1) (m' := σ2.1) (fun k j q => f1 k j (by omega) (by omega) (by omega)) hs1
  have o2 : ∀ k j, ¬ (62 ≤ k ∧ k ≤ 64) → gi σ2 k j = gi σ k j := by
    intro k j hk
    rw [f1 k j (by omega) (by omega) (by omega), g1, if_neg (by omega)]
  have hL1 := (hs2.2.2.1 1 (by omega)).1
  have hleft : ∀ v : Nat, v < 7 → gi σ2 64 v = wd (fun y => okAll κ 0 0 (sheaf / 7) y (sheaf % 7 - 3) ((v : Int) - 3)) := by
    intro v hv
    refine (l1 v hv).trans (wd_congr fun y _ => ?_)
    dsimp only
    rw [Bool.true_and]
    rfl
  have hlen := freshL_len κ 1 (newsL κ)
  have hl2 := newsL_len kw.2.2.1 kw.2.2.2.1
  have g48 : gi σ2 48 3 = zI (freshL κ 1 (newsL κ)).length := hL1
  rw [g48]
  have hrun : ∀ (v y : Nat), v < 7 → y < 32 → fitR κ (laneR (sheaf.toNat * 7 + v) y) = (okAll κ 0 0 (sheaf / 7) y (sheaf % 7 - 3) ((v : Int) - 3) && dcB (∃ s : Int, -kI κ 46 ≤ s ∧ s ≤ kI κ 46 ∧ okAll κ 1 s (sheaf / 7) y (sheaf % 7 - 3) ((v : Int) - 3) = true)) := by
    intro v y hv hy
    rw [fitR_lane s0 s1 hv hy]
    unfold runB
    simp only [miss0]
    cases hh : okAll κ 0 0 (sheaf / 7) y (sheaf % 7 - 3) ((v : Int) - 3)
    · rw [Bool.false_and]
      exact dcB_f (fun z => by cases z.1)
    · rw [Bool.true_and]
      congr 1
      apply propext
      exact ⟨fun z => z.2, fun z => ⟨rfl, z⟩⟩
  have c7 : zI sheaf * 7 = zI (sheaf * 7) := zI_mul sheaf 7
  by_cases q : (freshL κ 1 (newsL κ)).length = 0
  · rw [if_pos (by rw [q]; rfl), c7]
    have cc : (cpOK 0 (zI (sheaf * 7)) 7 7 1568 = true) = True := cpOK_t (s0 := 0) (n := 7) (by omega) (by omega) (by omega) (by omega) (by omega) (by omega) (by omega) (by omega)
    simp only [cc, if_true, nmM]
    have gc : ∀ k j, gi (cp σ2 64 61 0 (zI (sheaf * 7)) 7) k j = _ := gi_cp (σ := σ2) (ks := 64) (kd := 61) (s0 := 0) (d0 := sheaf * 7) (n := 7) (by omega) (by omega) (by omega) (by omega) (by omega) (by omega)
    refine Ho_some ⟨fun v hv => ?_, fun j hj => ?_, fun k j h1 h2 => ?_⟩
    · rw [gc, if_pos (by omega), show (0 : Int).toNat + (sheaf.toNat * 7 + v - (sheaf * 7).toNat) = v by omega, hleft v hv]
      apply wd_congr
      intro y hy
      rw [hrun v y hv hy]
      have : okAll κ 1 0 (sheaf / 7) y (sheaf % 7 - 3) ((v : Int) - 3) = true := by
        unfold okAll
        rw [List.length_eq_zero_iff.mp q]
        rfl
      rw [dcB_t ⟨0, by omega, by omega, this⟩, Bool.and_true]
    · rw [gc, if_neg (by omega), o2 _ _ (by omega)]
    · rw [gc, if_neg (by omega), o2 _ _ (by omega)]
  · rw [if_neg (by rw [zl_0, zI_eq (by omega) (by omega) (by omega) (by omega)]; omega)]
    have c26 : (ck (2 : Int32) 6 = true) = True := by decide
    have z2 : (2 : Int32).toNatClampNeg = 2 := rfl
    have g46 : gi σ2 18 2 = zI (kI κ 46) := (hs2.1.2.2.2.1 2 (by omega)).trans (zI_of _).symm
    simp only [c26, if_true, nmI, z2, g46]
    rw [zI_neg, eA]
    have hap' := hap
    generalize hA : kI κ 46 = ap at *
    rw [show zI (-ap) = zI (0 - ap) by congr 1; omega]
    refine lp_for (S := qMem) (R := qMem) (fun n i s => fX3_plotSheaf_l65 N n (zI sheaf) (bI A) (zI ap) (zI (i - ap)) s) (fun i s => 0 ≤ i ∧ (∀ v : Nat, v < 7 → gi s 64 v = wd (fun y => okAll κ 0 0 (sheaf / 7) y (sheaf % 7 - 3) ((v : Int) - 3))) ∧ (∀ v : Nat, v < 7 → gi s 61 (sheaf.toNat * 7 + v) = wd (fun y => okAll κ 0 0 (sheaf / 7) y (sheaf % 7 - 3) ((v : Int) - 3) && dcB (∃ s : Int, -ap ≤ s ∧ s < i - ap ∧ okAll κ 1 s (sheaf / 7) y (sheaf % 7 - 3) ((v : Int) - 3) = true))) ∧ (∀ j, ¬ (sheaf.toNat * 7 ≤ j ∧ j < sheaf.toNat * 7 + 7) → gi s 61 j = gi σ 61 j) ∧ (∀ k j, k ≠ 61 → ¬ (62 ≤ k ∧ k ≤ 65) → gi s k j = gi σ k j)) _ (2 * ap + 1) ?_ ?_ N 0 σ2 (by omega) (by omega) ?_
    · intro n s ⟨_, h1, h2, h3, h4⟩
      show Ho (fX3_plotSheaf_s65 N _ _ _ _ _ _) _
      unfold fX3_plotSheaf_s65
      have cl : (zI ap < zI (2 * ap + 1 - ap)) = True := by rw [zI_lt (by omega) (by omega) (by omega) (by omega)]; exact eq_true (by omega)
      simp only [cl, if_true]
      have : (if bI A = 0 then some s else some s) = some s := by split <;> rfl
      rw [this]
      refine Ho_some ⟨fun v hv => ?_, h3, h4⟩
      rw [h2 v hv]
      apply wd_congr
      intro y hy
      rw [hrun v y hv hy]
      congr 2
      apply propext
      constructor
      · rintro ⟨s, a1, a2, a3⟩; exact ⟨s, a1, by omega, a3⟩
      · rintro ⟨s, a1, a2, a3⟩; exact ⟨s, a1, by omega, a3⟩
    · intro n i s hi ⟨i0, h1, h2, h3, h4⟩ hc
      show Ho (fX3_plotSheaf_s65 N _ _ _ _ _ _) _
      unfold fX3_plotSheaf_s65 fX3_plotSheaf_b143
      have cl : (zI ap < zI (i - ap)) = False := by rw [zI_lt (by omega) (by omega) (by omega) (by omega)]; exact eq_false (by omega)
      have cc : (cpOK 0 0 7 7 7 = true) = True := cpOK_t (s0 := 0) (d0 := 0) (n := 7) (by omega) (by omega) (by omega) (by omega) (by omega) (by omega) (by omega) (by omega)
      have i1 : zI (i - ap) + 1 = zI (i + 1 - ap) := by rw [show (1 : Int32) = zI 1 from rfl, zI_add]; congr 1; omega
      simp only [cl, if_false, cc, if_true, nmM, i1]
      cases A
      · rw [bI_f, if_pos rfl]
        have zall : ∀ v y : Nat, v < 7 → y < 32 → okAll κ 0 0 (sheaf / 7) y (sheaf % 7 - 3) ((v : Int) - 3) = false := by
          intro v y hv hy
          have z := zA rfl v hv
          rw [hleft v hv] at z
          exact (wd_eq0 _).mp z y hy
        refine Ho_some ⟨fun v hv => ?_, h3, h4⟩
        rw [h2 v hv]
        apply wd_congr
        intro y hy
        rw [hrun v y hv hy, zall v y hv hy, Bool.false_and, Bool.false_and]
      · rw [bI_t, if_neg (by decide)]
        have gc : ∀ k j, gi (cp s 64 65 0 0 7) k j = _ := gi_cp (σ := s) (ks := 64) (kd := 65) (s0 := 0) (d0 := 0) (n := 7) (by omega) (by omega) (by omega) (by omega) (by omega) (by omega)
        generalize hs3 : cp s 64 65 0 0 7 = s3 at gc
        have o3 : ∀ k j, k ≠ 65 → gi s3 k j = gi s k j := fun k j hk => by rw [gc, if_neg (by omega)]
        have hseen3 : seen s3.1 κ := seen_c (m := σ.1) (m' := s3.1) (fun k j qq => (o3 k j (by omega)).trans (h4 k j (by omega) (by omega))) hs0
        have hn1 := e_narrow (N := N) (k1 := 65) (b := 1) (σ := s3) (shift := i - ap) (sheaf := sheaf) (f := fun v y => okAll κ 0 0 (sheaf / 7) y (sheaf % 7 - 3) ((v : Int) - 3)) hN hseen3 (Or.inr rfl) (by omega) (by omega) (by omega) s0 s1 (fun v hv => by
          show gi s3 65 v = _
          rw [gc, if_pos (by omega), show (0 : Int).toNat + (v - (0 : Int).toNat) = v by omega]
          exact h1 v hv)
        refine Ho_bind hn1 fun b ⟨m1, ⟨B, eB, zB⟩, f2⟩ => ?_
        obtain ⟨b1, s4⟩ := b
        simp only at m1 eB zB f2 ⊢
        have o4 : ∀ k j, k ≠ 62 → k ≠ 63 → k ≠ 65 → gi s4 k j = gi s k j := fun k j a1 a2 a3 => (f2 k j a1 a2 a3).trans (o3 k j a3)
        have hex : ∀ v y : Nat, dcB (∃ s : Int, -ap ≤ s ∧ s < i + 1 - ap ∧ okAll κ 1 s (sheaf / 7) y (sheaf % 7 - 3) ((v : Int) - 3) = true) = (dcB (∃ s : Int, -ap ≤ s ∧ s < i - ap ∧ okAll κ 1 s (sheaf / 7) y (sheaf % 7 - 3) ((v : Int) - 3) = true) || okAll κ 1 (i - ap) (sheaf / 7) y (sheaf % 7 - 3) ((v : Int) - 3)) := by
          intro v y
          cases hh : okAll κ 1 (i - ap) (sheaf / 7) y (sheaf % 7 - 3) ((v : Int) - 3)
          · rw [Bool.or_false]
            congr 1
            apply propext
            constructor
            · rintro ⟨s, a1, a2, a3⟩
              by_cases qs : s = i - ap
              · subst qs; rw [hh] at a3; cases a3
              · exact ⟨s, a1, by omega, a3⟩
            · rintro ⟨s, a1, a2, a3⟩; exact ⟨s, a1, by omega, a3⟩
          · rw [Bool.or_true]
            exact dcB_t ⟨i - ap, by omega, by omega, hh⟩
        rw [eB, if_bI]
        cases B
        · rw [if_neg (by simp)]
          refine hc s4 ⟨by omega, fun v hv => ?_, fun v hv => ?_, fun j hj => ?_, fun k j a1 a2 => ?_⟩
          · rw [o4 _ _ (by omega) (by omega) (by omega)]; exact h1 v hv
          · rw [o4 _ _ (by omega) (by omega) (by omega), h2 v hv]
            apply wd_congr
            intro y hy
            have z := zB rfl v hv
            rw [show gi s4 65 v = _ from m1 v hv] at z
            have zy := (wd_eq0 _).mp z y hy
            simp only [Int.natCast_one] at zy
            rw [hex v y]
            cases hl : okAll κ 0 0 (sheaf / 7) y (sheaf % 7 - 3) ((v : Int) - 3)
            · rfl
            · rw [hl, Bool.true_and] at zy
              rw [show okAll κ 1 (i - ap) (sheaf / 7) y (sheaf % 7 - 3) ((v : Int) - 3) = false from zy, Bool.or_false]
          · rw [o4 _ _ (by omega) (by omega) (by omega)]; exact h3 j hj
          · rw [o4 _ _ (by omega) (by omega) (by omega)]; exact h4 k j a1 a2
        · rw [if_pos rfl, show (0 : Int32) = zI 0 from rfl]
          refine lp_for (S := qMem) (R := qMem) (fun n' v s => fX3_plotSheaf_l108 N (fX3_plotSheaf_l65 N n) n' (zI sheaf) 1 (zI ap) (zI (i - ap)) (zI v) s) (fun v p => 0 ≤ v ∧ (∀ w : Nat, w < 7 → gi p 61 (sheaf.toNat * 7 + w) = wd (fun y => okAll κ 0 0 (sheaf / 7) y (sheaf % 7 - 3) ((w : Int) - 3) && dcB (∃ s : Int, -ap ≤ s ∧ s < (if (w : Int) < v then i + 1 - ap else i - ap) ∧ okAll κ 1 s (sheaf / 7) y (sheaf % 7 - 3) ((w : Int) - 3) = true))) ∧ (∀ j, ¬ (sheaf.toNat * 7 ≤ j ∧ j < sheaf.toNat * 7 + 7) → gi p 61 j = gi s4 61 j) ∧ ∀ k j, k ≠ 61 → gi p k j = gi s4 k j) _ 7 ?_ ?_ N 0 s4 (by omega) (by omega) ?_
          · intro n' p ⟨_, u1, u2, u3⟩
            show Ho (fX3_plotSheaf_s108 N _ _ _ _ _ _ _ _) _
            unfold fX3_plotSheaf_s108 fX3_plotSheaf_b143
            rw [if_pos (by decide), i1]
            refine hc p ⟨by omega, fun v hv => ?_, fun v hv => ?_, fun j hj => ?_, fun k j a1 a2 => ?_⟩
            · rw [u3 _ _ (by omega), o4 _ _ (by omega) (by omega) (by omega)]; exact h1 v hv
            · rw [u1 v hv, if_pos (by omega)]
            · rw [u2 j hj, o4 _ _ (by omega) (by omega) (by omega)]; exact h3 j hj
            · rw [u3 _ _ a1, o4 _ _ (by omega) (by omega) (by omega)]; exact h4 k j a1 a2
          · intro n' v p hv ⟨v0, u1, u2, u3⟩ hc3
            show Ho (fX3_plotSheaf_s108 N _ _ _ _ _ _ _ _) _
            unfold fX3_plotSheaf_s108
            have c7' : (7 ≤ zI v) = False := by rw [zl_7, zI_le (by omega) (by omega) (by omega) (by omega)]; exact eq_false (by omega)
            have ci : zI sheaf * 7 + zI v = zI (sheaf * 7 + v) := by rw [c7, zI_add]
            have c77 : (ck (zI v) 7 = true) = True := zI_ckT v0 (by omega) (by omega)
            have cil : (ck (zI (sheaf * 7 + v)) 1568 = true) = True := zI_ckT (by omega) (by omega) (by omega)
            have zil : (zI (sheaf * 7 + v)).toNatClampNeg = sheaf.toNat * 7 + v.toNat := by rw [zI_clamp (by omega) (by omega)]; omega
            have z77 : (zI v).toNatClampNeg = v.toNat := zI_clamp v0 (by omega)
            have v1 : zI v + 1 = zI (v + 1) := zI_add v 1
            simp only [c7', if_false, ci, c77, cil, if_true, zil, z77, v1, nmM]
            rw [u1 v.toNat (by omega), if_neg (by omega), u3 65 _ (by omega), show gi s4 65 v.toNat = _ from m1 v.toNat (by omega), wd_or]
            refine hc3 _ ⟨by omega, fun w hw => ?_, fun j hj => ?_, fun k j hk => ?_⟩
            · rw [gi_si]
              by_cases qw : w = v.toNat
              · subst qw
                rw [if_pos ⟨rfl, rfl⟩, if_pos (by omega)]
                apply wd_congr
                intro y _
                rw [hex]
                simp only [Int.natCast_one]
                cases okAll κ 0 0 (sheaf / 7) y (sheaf % 7 - 3) (((v.toNat : Nat) : Int) - 3)
                · rfl
                · simp only [Bool.true_and]
              · rw [if_neg (by omega), u1 w hw]
                by_cases qq : (w : Int) < v
                · rw [if_pos qq, if_pos (by omega)]
                · rw [if_neg qq, if_neg (by omega)]
            · rw [gi_si, if_neg (by omega)]; exact u2 j hj
            · rw [gi_si, if_neg (by omega)]; exact u3 k j hk
          · refine ⟨by omega, fun w hw => ?_, fun _ _ => rfl, fun _ _ _ => rfl⟩
            rw [if_neg (by omega), o4 _ _ (by omega) (by omega) (by omega)]
            exact h2 w hw
    · refine ⟨by omega, hleft, fun v hv => ?_, fun j hj => o2 61 j (by omega), fun k j h1 h2 => o2 k j (by omega)⟩
      rw [o2 _ _ (by omega), hz v hv, ← wd_zero]
      apply wd_congr
      intro y _
      rw [dcB_f (fun ⟨s, a1, a2, _⟩ => by omega), Bool.and_false]
