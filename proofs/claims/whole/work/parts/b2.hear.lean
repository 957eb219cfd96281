/-! who would hear, by the reference -/
def kLaw (κ : Nat → Int32) (cl : List CL) : Prop := (0 ≤ kI κ 306 ∧ kI κ 306 ≤ 400) ∧ (∀ i, 0 ≤ tvK κ i) ∧ ((cl = [] ∧ kI κ 306 = 0) ∨ rdC (tcK κ) (tvK κ) cl 0 (kI κ 306).toNat) ∧ cl.length ≤ 12 ∧ ∃ N, ∀ c ∈ cl, GC N 35 c
theorem kLaw_of {N : Nat} {m : Nat → Nat → Int32} {κ : Nat → Int32} {cl : List CL} (h : lawOf N m κ cl) : kLaw κ cl := ⟨h.2.2.1, h.2.2.2.1, h.2.2.2.2, h.1.2.2.1, N, h.2.1⟩
def frH (τ t : qMem) : Prop := ∀ k j, ¬ ((k = 0 ∧ (j = 7 ∨ (37 ≤ j ∧ j ≤ 39))) ∨ (k = 23 ∧ j = 2) ∨ k = 5 ∨ k = 24) → gi t k j = gi τ k j
def crOK (t : qMem) (κ : Nat → Int32) : Prop := (-1 ≤ (gi t 0 7).toInt ∧ (gi t 0 7).toInt ≤ (gi t 0 2).toInt) ∧ (gi t 0 7 = gi t 0 2 → carrOK t.1 κ)
theorem r_hearsBy {N : Nat} {τ : qMem} {κ : Nat → Int32} {cl : List CL} {b L sp : Int} (hN : 200000 ≤ N) (hκ : τ.1 2 = κ) (hw : KW κ) (hl : kLaw κ cl) (hv : 0 ≤ (gi τ 0 2).toInt) (hc : crOK τ κ) (he : ∀ w, w < 5 → w ≠ 2 → ∀ r, gi τ 23 w = zI (envS sp (depS κ b) r L b w)) (b0 : 0 ≤ b) (b1 : b ≤ 1) (l0 : 0 ≤ L) (l1 : L ≤ 23) (s0 : 0 ≤ sp) (s1 : sp ≤ 3) :
    Ho (fX12_hearsBy N (zI (depS κ b)) τ) (fun t => ring24 t.1 (earB κ cl b L sp) ∧ frH τ t ∧ crOK t κ) := by
  obtain ⟨⟨n0, n1⟩, tv0, hr, h12, N', hg⟩ := hl
  have hT := hw.2.1
  have hd := (hw.1 b b0 b1).2.2.1
  have ht := hT.2.2.2.1
  have sm : ∀ e, okV e → ∀ c ∈ cl, ∀ v, clF e c = some v → smE v := fun e hve c hcc v hv' => clF_sm (hg c hcc) hve hv'
  unfold fX12_hearsBy
  have hst := lp_for (S := qMem) (R := qMem) (fun n i s => fX12_hearsBy_l2 N n (zI (depS κ b)) (zI i) s) (fun i s => 0 ≤ i ∧ (∀ j : Nat, (j : Int) < i → gi s 24 j = bI (earB κ cl b L sp j)) ∧ frH τ s ∧ crOK s κ) (fun t => ring24 t.1 (earB κ cl b L sp) ∧ frH τ t ∧ crOK t κ) 201 ?_ ?_ N 0 τ (by omega) (by omega) ⟨by omega, fun j hj => by omega, fun _ _ _ => rfl, hc⟩
  · exact hst
  · intro n s ⟨_, h1, h2, h3⟩
    show Ho (fX12_hearsBy_s2 N _ _ _ _) _
    unfold fX12_hearsBy_s2
    have c1 : ((201 : Int32) ≤ zI 201) = True := by decide
    simp only [c1, if_true]
    exact Ho_some ⟨fun j hj => h1 j (by omega), h2, h3⟩
  · intro n i s hi ⟨i0, h1, h2, h3⟩ hcc
    show Ho (fX12_hearsBy_s2 N _ _ _ _) _
    unfold fX12_hearsBy_s2
    have c1 : (201 ≤ zI i) = False := by rw [zl_201, zI_le (by omega) (by omega) (by omega) (by omega)]; exact eq_false (by omega)
    simp only [c1, if_false]
    have hve : okV (envS sp (depS κ b) i L b) := envS_ok (by omega) (by omega) (by omega) (by omega) (by omega)
    have sml : ∀ w, smE (lawS (envS sp (depS κ b) i L b) w cl 0) := fun w => lawS_sm cl 0 (by unfold smE; omega) (sm _ hve)
    have tells : ∀ (what : Int) (t : qMem), 0 ≤ what → what ≤ 2 → frH τ t → crOK t κ → Ho (fX12_tellsOf N (zI i) (zI what) t) (fun y => y.1 = zI (lawS (envS sp (depS κ b) i L b) what cl 0) ∧ frH τ y.2 ∧ crOK y.2 κ ∧ ∀ j, gi y.2 24 j = gi t 24 j) := by
      intro what t w0 w1 ft ct
      have kt : t.1 2 = κ := by rw [← hκ]; exact funext fun j => ft 2 j (by omega)
      have := r_tellsOf (N := N) (e := envS sp (depS κ b) i L b) (cl := cl) (what := what) (range := i) (τ := t) hN (by rw [kt]; exact n0) (by rw [kt]; exact n1) (by rw [kt]; exact tv0) (by rw [kt]; exact hr) h12 (fun w hw hw2 => (ft _ _ (by omega)).trans (he w hw hw2 i)) rfl hve w0 w1 (sm _ hve)
      refine Ho_mono this (fun y ⟨y1, y2⟩ => ⟨y1, fun k j hk => (y2 k j (by omega)).trans (ft k j hk), ?_, fun j => y2 24 j (by omega)⟩)
      unfold crOK
      rw [y2 0 7 (by omega), y2 0 2 (by omega)]
      exact ⟨ct.1, fun z => carrOK_c (fun j => y2 5 j (by omega)) (ct.2 z)⟩
    refine Ho_bind (show Ho (fX12_tellsOf N (zI i) 0 s) _ from tells 0 s (by omega) (by omega) h2 h3) (fun y1 ⟨a1, a2, a3, a4⟩ => ?_)
    refine Ho_bind (show Ho (fX12_tellsOf N (zI i) 1 y1.2) _ from tells 1 y1.2 (by omega) (by omega) a2 a3) (fun y2 ⟨d1, d2, d3, d4⟩ => ?_)
    refine Ho_bind (show Ho (fX12_tellsOf N (zI i) 2 y2.2) _ from tells 2 y2.2 (by omega) (by omega) d2 d3) (fun y3 ⟨f1, f2, f3, f4⟩ => ?_)
    rw [a1, d1, f1]
    simp only [loud_cmp sml]
    have k1 : (ck (zI i) 201 = true) = True := zI_ckT (by omega) (by omega) (by omega)
    have z1 : (zI i).toNatClampNeg = i.toNat := zI_clamp (by omega) (by omega)
    have nx : zI i + 1 = zI (i + 1) := by rw [show (1 : Int32) = zI 1 from rfl, zI_add]
    have put : ∀ (t : qMem) (v : Bool), frH τ t → crOK t κ → (∀ j, gi t 24 j = gi s 24 j) → v = earB κ cl b L sp i → Ho (fX12_hearsBy_b59 N (fX12_hearsBy_l2 N n) (zI (depS κ b)) (zI i) (zI i) (bI v) t) (fun t => ring24 t.1 (earB κ cl b L sp) ∧ frH τ t ∧ crOK t κ) := by
      intro t v ft ct f24 hv'
      unfold fX12_hearsBy_b59
      simp only [k1, if_true, z1, nmM, nx, bI_nar]
      refine hcc _ ⟨by omega, fun j hj => ?_, fun k j hk => ?_, ?_⟩
      · rw [gi_si]
        by_cases e : (j : Int) = i
        · rw [if_pos ⟨rfl, by omega⟩, hv', e]
        · rw [if_neg (by omega), f24]; exact h1 j (by omega)
      · rw [gi_si, if_neg (by omega)]; exact ft k j hk
      · unfold crOK
        rw [gi_si, if_neg (by omega), gi_si, if_neg (by omega)]
        exact ⟨ct.1, fun z => carrOK_c (t := t.1) (fun j => by show gi _ 5 j = gi _ 5 j; rw [gi_si, if_neg (by omega)]) (ct.2 z)⟩
    have f24 : ∀ j, gi y3.2 24 j = gi s 24 j := fun j => (f4 j).trans ((d4 j).trans (a4 j))
    unfold fX12_hearsBy_b58
    cases hlo : loudB cl (envS sp (depS κ b) i L b) with
    | false =>
      rw [if_pos rfl]
      exact put y3.2 false f2 f3 f24 (by unfold earB; rw [hlo, Bool.and_false])
    | true =>
      rw [if_neg (by decide)]
      have k3 : y3.2.1 2 = κ := by rw [← hκ]; exact funext fun j => f2 2 j (by omega)
      have tm : fX12_term 3 y3.2 = some (zI (kI κ 47)) := by
        have := r_term (τ := y3.2) (t := 3) (by omega) (by omega)
        rw [k3] at this
        exact this
      rw [tm, Option.bind_some]
      refine Ho_bind (r_carr hN k3 hT hd.1 hd.2 ht.1 ht.2 i0 (by omega) f3.2) (fun a ⟨g1, g2, g3, g4⟩ => ?_)
      have fa : frH τ a.2 := fun k j hk => (g4 k j (by omega) (by omega)).trans (f2 k j hk)
      have e2 : gi a.2 0 2 = gi y3.2 0 2 := g4 0 2 (by omega) (by omega)
      have v2 : 0 ≤ (gi y3.2 0 2).toInt := by rw [f2 0 2 (by omega)]; exact hv
      have ca : crOK a.2 κ := ⟨by rw [g2, e2]; omega, fun _ => g3⟩
      have f24a : ∀ j, gi a.2 24 j = gi s 24 j := fun j => (g4 24 j (by omega) (by omega)).trans (f24 j)
      rw [g1, if_bI]
      cases hre : reachB κ (depS κ b) (kI κ 47) i with
      | false => rw [if_neg (c := false = true) (by decide)]; exact put a.2 false fa ca f24a (by unfold earB; rw [hre, Bool.false_and])
      | true => rw [if_pos rfl]; exact put a.2 true fa ca f24a (by unfold earB; rw [hre, hlo]; rfl)
theorem crOK_of {t : qMem} {κ : Nat → Int32} (h : RC t.1 κ) : crOK t κ := ⟨h.1, h.2.2.2.1⟩
theorem RC_H {τ t : qMem} {κ : Nat → Int32} (h : RC τ.1 κ) (f : frH τ t) (c : crOK t κ) : RC t.1 κ := by
  obtain ⟨a, b, d, e, g, i⟩ := h
  have e2 : t.1 0 2 = τ.1 0 2 := f 0 2 (by omega)
  have e13 : t.1 0 13 = τ.1 0 13 := f 0 13 (by omega)
  have e15 : t.1 0 15 = τ.1 0 15 := f 0 15 (by omega)
  unfold RC
  rw [e13, e15]
  refine ⟨c.1, by rw [e2]; exact b, by rw [e2]; exact d, c.2, fun z => ?_, fun z => ?_⟩
  · rw [e2] at z
    exact fitsOK_c (fun k j hk => f k j (by omega)) (g z)
  · rw [e2] at z
    exact ⟨missOK_c (fun j => f 8 j (by omega)) (i z).1, newsOK_c (fun k j hk => f k j (by omega)) (i z).2⟩
/-- a boat is asked about -/
theorem r_asks {τ : qMem} {κ : Nat → Int32} {b L sp : Int} (hκ : τ.1 2 = κ) (b0 : 0 ≤ b) (b1 : b ≤ 1) : ∃ t, fX12_asksBoat (zI b) (zI L) (zI sp) τ = some t ∧ (∀ w, w < 5 → w ≠ 2 → ∀ r, gi t 23 w = zI (envS sp (depS κ b) r L b w)) ∧ ∀ k j, k ≠ 23 → gi t k j = gi τ k j := by
  unfold fX12_asksBoat
  rw [if_pos (by decide)]
  simp only [nmM]
  have kt : (si τ 23 (0 : Int32).toNatClampNeg (zI sp)).1 2 = κ := by rw [row_si (by decide)]; exact hκ
  have bo : fX12_boatOf (zI b) 2 (si τ 23 (0 : Int32).toNatClampNeg (zI sp)) = some (zI (depS κ b)) := by
    have := r_boatOf (τ := si τ 23 (0 : Int32).toNatClampNeg (zI sp)) (b := b) (f := 2) b0 b1 (by omega) (by omega)
    rw [kt] at this
    exact this
  rw [bo, Option.bind_some, if_pos (c := ck 1 5 = true) (by decide), if_pos (c := ck 3 5 = true) (by decide), if_pos (c := ck 4 5 = true) (by decide)]
  refine ⟨_, rfl, fun w hw hw2 r => ?_, fun k j hk => ?_⟩
  · rcases (by omega : w = 0 ∨ w = 1 ∨ w = 3 ∨ w = 4) with z | z | z | z
    · subst z; simp only [gi_si]; rfl
    · subst z; simp only [gi_si]; rfl
    · subst z; simp only [gi_si]; rfl
    · subst z; simp only [gi_si]; rfl
  · rw [gi_si, if_neg (by omega), gi_si, if_neg (by omega), gi_si, if_neg (by omega), gi_si, if_neg (by omega)]
