/-! the class sorts out -/
def freshAt (m : Nat → Nat → Int32) (κ : Nat → Int32) (L : List (Bool × Nat)) : Prop := ∀ b : Nat, b < 2 → m (46 + 2 * b) 3 = zI (freshL κ b L).length ∧ ∀ i it, (freshL κ b L)[i]? = some it → m (47 + 2 * b) (3 * i) = bI it.1 ∧ m (47 + 2 * b) (3 * i + 1) = zI (itF κ it 1) ∧ m (47 + 2 * b) (3 * i + 2) = zI (itF κ it 2)
theorem freshL_len (κ : Nat → Int32) (b : Int) (L : List (Bool × Nat)) : (freshL κ b L).length ≤ L.length := List.length_filter_le _ _
theorem freshL_snoc (κ : Nat → Int32) (b : Int) (L : List (Bool × Nat)) (it : Bool × Nat) : freshL κ b (L ++ [it]) = freshL κ b L ++ (if itF κ it 0 = b then [it] else []) := by
  unfold freshL
  rw [List.filter_append]
  congr 1
  by_cases q : itF κ it 0 = b
  · rw [if_pos q]; simp [q]
  · rw [if_neg q]; simp [q]
/-- where the class's sorting may write -/
def sortW (k j : Nat) : Prop := (k = 46 ∧ j = 3) ∨ (k = 48 ∧ j = 3) ∨ k = 47 ∨ k = 49 ∨ k = 62
theorem wayF_it {κ : Nat → Int32} {e : Bool} {k : Nat} {x y : Int} : wayF κ e (itF κ (e, k) 2) x y = wayB κ (e, k) x y := by
  unfold wayF wayB
  cases e <;> rfl
theorem e_known {N : Nat} {σ : qMem} {κ : Nat → Int32} {e : Bool} {k : Nat} (hN : 200000 ≤ N) (hb : bookS σ.1 1) (hk : bookK σ.1 1 κ) (hw : KW κ) (hv : validI κ (e, k)) :
    Ho (fX3_isAnswered N 23 40 (bI e) (zI (itF κ (e, k) 0)) (zI (itF κ (e, k) 1)) (zI (itF κ (e, k) 2)) σ) (fun a => (∀ k j, k ≠ 62 → gi a.2 k j = gi σ k j) ∧ ∃ A : Bool, a.1 = bI A ∧ (A = true ↔ ∃ w : Int, 0 ≤ w ∧ w < kI κ 302 ∧ explB κ (e, k) (kI κ (188 + 2 * w)) (kI κ (188 + 2 * w + 1)) = true)) ∧
    Ho (fX3_isAnswered N 25 30 (bI e) (zI (itF κ (e, k) 0)) (zI (itF κ (e, k) 1)) (zI (itF κ (e, k) 2)) σ) (fun a => (∀ k j, k ≠ 62 → gi a.2 k j = gi σ k j) ∧ ∃ A : Bool, a.1 = bI A ∧ (A = true ↔ ∃ s : Int, 0 ≤ s ∧ s < kI κ 308 ∧ shoalP κ (e, k) s)) := by
  obtain ⟨kb, kt, kh, ke, kr, ks, _⟩ := hw
  have rr := it_rng kh ke hv
  obtain ⟨y1, y2, y3, y4, y5, y6, _⟩ := hb
  obtain ⟨t1, t2, t3, t4, t5, t6, t7, t8, _⟩ := hk
  have hboat : boatT σ.1 (3 + 6 * (itF κ (e, k) 0).toNat) κ (itF κ (e, k) 0).toNat := by
    rcases (by omega : itF κ (e, k) 0 = 0 ∨ itF κ (e, k) 0 = 1) with q | q <;> rw [q]
    · exact t1
    · exact t2
  have hp := hboat.2.2 (itF κ (e, k) 1).toNat (by omega)
  rw [show (((itF κ (e, k) 0).toNat : Nat) : Int) = itF κ (e, k) 0 by omega, show (((itF κ (e, k) 1).toNat : Nat) : Int) = itF κ (e, k) 1 by omega] at hp
  have h44 : gi σ 18 0 = zI (kI κ 44) := (t4 0 (by omega)).trans (zI_of _).symm
  have h45 : gi σ 18 1 = zI (kI κ 45) := (t4 1 (by omega)).trans (zI_of _).symm
  have hwn := kr.1
  have hsn := ks.1
  have v2 : e = false → itF κ (e, k) 2 ≤ 79 := fun q => rr.2.2.2 q
  constructor
  · refine Ho_mono (e_answered (N := N) (k1 := 23) (n1 := 40) (σ := σ) (κ := κ) (e := e) (n := kI κ 302) (fun w => kI κ (188 + 2 * w)) (fun w => kI κ (188 + 2 * w + 1)) (fun _ => 0) (fun _ => 0) (fun _ => 23) hN kt kb (by omega) (t7.1.trans (zI_of _).symm) hwn.1 hwn.2 ?_ ?_ rr.1.1 rr.1.2 rr.2.1.1 rr.2.1.2 rr.2.2.1.1 rr.2.2.1.2 v2 hp.1 hp.2.1 h44 h45) ?_
    · intro ρ hρ i i0 i1
      have hW : gi ρ 23 0 = zI 5 := by rw [hρ _ _ (by omega)]; exact y5.1
      have hS : gi ρ 23 3 = zI (kI κ 302) := by rw [hρ _ _ (by omega)]; exact t7.1.trans (zI_of _).symm
      have e7 := t7.2 i.toNat (by omega)
      have rd : ∀ c : Int, 0 ≤ c → c ≤ 4 → fX8_at 23 40 (zI i) (zI c) ρ = some (gi σ 24 (5 * i.toNat + c.toNat)) := by
        intro c c0 c1
        rw [e_at hW hS i0 i1 c0 (by omega) (by omega) (by omega) (by omega), hρ _ _ (by omega), show (i * 5 + c).toNat = 5 * i.toNat + c.toNat by omega]
      rw [rd 0 (by omega) (by omega), rd 1 (by omega) (by omega), rd 2 (by omega) (by omega), rd 3 (by omega) (by omega), rd 4 (by omega) (by omega)]
      refine ⟨?_, ?_, ?_, ?_, ?_⟩
      · congr 1
        refine e7.1.trans ((zI_of _).symm.trans ?_)
        unfold kI
        rw [show (188 + 2 * i).toNat = 188 + 2 * i.toNat by omega]
      · congr 1
        refine e7.2.1.trans ((zI_of _).symm.trans ?_)
        unfold kI
        rw [show (188 + 2 * i + 1).toNat = 188 + 2 * i.toNat + 1 by omega]
      · exact congrArg some e7.2.2.1
      · exact congrArg some e7.2.2.2.1
      · exact congrArg some e7.2.2.2.2
    · intro i i0 i1
      have := kr.2 i i0 i1
      exact ⟨this.1, this.2, by omega, by omega, by omega⟩
    · rintro a ⟨f1, A, f2, f3⟩
      refine ⟨f1, A, f2, f3.trans ?_⟩
      constructor
      · rintro ⟨i, i0, i1, _, x, y, g1, g2, g3, g4, g5⟩
        refine ⟨i, i0, i1, ?_⟩
        have ex : x = kI κ (188 + 2 * i) := by omega
        have ey : y = kI κ (188 + 2 * i + 1) := by omega
        subst ex ey
        rw [wayF_it] at g5
        exact g5
      · rintro ⟨i, i0, i1, g5⟩
        refine ⟨i, i0, i1, rr.2.1, kI κ (188 + 2 * i), kI κ (188 + 2 * i + 1), by omega, by omega, by omega, by omega, ?_⟩
        rw [wayF_it]
        exact g5
  · refine Ho_mono (e_answered (N := N) (k1 := 25) (n1 := 30) (σ := σ) (κ := κ) (e := e) (n := kI κ 308) (fun s => kI κ (238 + 5 * s)) (fun s => kI κ (238 + 5 * s + 1)) (fun s => kI κ (238 + 5 * s + 2)) (fun s => kI κ (238 + 5 * s + 3)) (fun s => kI κ (238 + 5 * s + 4)) hN kt kb (by omega) (t8.1.trans (zI_of _).symm) hsn.1 (by omega) ?_ ?_ rr.1.1 rr.1.2 rr.2.1.1 rr.2.1.2 rr.2.2.1.1 rr.2.2.1.2 v2 hp.1 hp.2.1 h44 h45) ?_
    · intro ρ hρ i i0 i1
      have hW : gi ρ 25 0 = zI 5 := by rw [hρ _ _ (by omega)]; exact y6.1
      have hS : gi ρ 25 3 = zI (kI κ 308) := by rw [hρ _ _ (by omega)]; exact t8.1.trans (zI_of _).symm
      have rd : ∀ c : Int, 0 ≤ c → c ≤ 4 → fX8_at 25 30 (zI i) (zI c) ρ = some (zI (kI κ (238 + 5 * i + c))) := by
        intro c c0 c1
        rw [e_at hW hS i0 i1 c0 (by omega) (by omega) (by omega) (by omega), hρ _ _ (by omega)]
        congr 1
        refine (t8.2 _ (by omega)).trans ((zI_of _).symm.trans ?_)
        unfold kI
        rw [show (238 + 5 * i + c).toNat = 238 + (i * 5 + c).toNat by omega]
      have r0 := rd 0 (by omega) (by omega)
      rw [Int.add_zero] at r0
      exact ⟨r0, rd 1 (by omega) (by omega), rd 2 (by omega) (by omega), rd 3 (by omega) (by omega), rd 4 (by omega) (by omega)⟩
    · intro i i0 i1
      have := ks.2 i i0 i1
      exact ⟨this.1, this.2.1, this.2.2.1, this.2.2.2.1, this.2.2.2.2⟩
    · rintro a ⟨f1, A, f2, f3⟩
      refine ⟨f1, A, f2, f3.trans ?_⟩
      simp only [wayF_it]
      exact Iff.rfl
theorem freshAt_c {m m' : Nat → Nat → Int32} {κ : Nat → Int32} {L : List (Bool × Nat)} (h : ∀ k j, ((k = 46 ∧ j = 3) ∨ (k = 48 ∧ j = 3) ∨ k = 47 ∨ k = 49) → m' k j = m k j) (hf : freshAt m κ L) : freshAt m' κ L := by
  intro b hb
  obtain ⟨a, c⟩ := hf b hb
  refine ⟨?_, fun i it hi => ?_⟩
  · rw [h _ _ (by omega)]; exact a
  · rw [h _ _ (by omega), h _ _ (by omega), h _ _ (by omega)]; exact c i it hi
theorem e_sortKind {N k2 n2 base cnt : Nat} {e : Bool} {mo : Int} {σ : qMem} {κ : Nat → Int32} {L0 : List (Bool × Nat)} (hN : 200000 ≤ N) (hb : bookS σ.1 1) (hk : bookK σ.1 1 κ) (hw : KW κ) (hsh : rowS σ.1 46 3 36 ∧ rowS σ.1 48 3 36)
    (hcase : (e = false ∧ k2 = 19 ∧ n2 = 72) ∨ (e = true ∧ k2 = 21 ∧ n2 = 36)) (hn : gi σ k2 3 = zI mo) (hmo : 0 ≤ mo ∧ mo ≤ 24) (hw2 : gi σ k2 0 = zI 3) (hmn : 3 * mo ≤ n2) (hval : ∀ k : Nat, (k : Int) < mo → validI κ (e, k)) (hrd : ∀ (k : Nat) (f : Int), (k : Int) < mo → 0 ≤ f → f ≤ 2 → gi σ (k2 + 1) (3 * k + f.toNat) = zI (itF κ (e, k) f)) (hL0 : L0.length + mo ≤ 36) (hf : freshAt σ.1 κ L0) :
    Ho (fX3_sortKind N (bI e) k2 n2 σ) (fun a => a.1 = wd (fun k => decide ((k : Int) < mo) && knownB κ (e, k)) ∧ freshAt a.2.1 κ (L0 ++ newsK κ e mo.toNat) ∧ ∀ k j, ¬ sortW k j → gi a.2 k j = gi σ k j) := by
  unfold fX3_sortKind
  have e0 : (0 : Int32) = wd (fun k => decide ((k : Int) < 0) && knownB κ (e, k)) := by
    rw [← wd_zero]
    apply wd_congr
    intro j _
    rw [decide_eq_false (by omega)]; rfl
  rw [show fX3_sortKind_l5 N k2 n2 N (bI e) 0 0 σ = fX3_sortKind_l5 N k2 n2 N (bI e) (wd (fun k => decide ((k : Int) < 0) && knownB κ (e, k))) (zI 0) σ by rw [← e0]; rfl]
  refine lp_for (S := qMem) (R := Int32 × qMem) (fun n i s => fX3_sortKind_l5 N k2 n2 n (bI e) (wd (fun k => decide ((k : Int) < i) && knownB κ (e, k))) (zI i) s) (fun i s => 0 ≤ i ∧ freshAt s.1 κ (L0 ++ newsK κ e i.toNat) ∧ ∀ k j, ¬ sortW k j → gi s k j = gi σ k j) _ mo ?_ ?_ N 0 σ (by omega) (by omega) ?_
  · intro n s ⟨_, h1, h2⟩
    show Ho (fX3_sortKind_s5 N k2 n2 _ _ _ _ _) _
    unfold fX3_sortKind_s5
    rw [h2 k2 3 (by unfold sortW; omega), hn]
    simp (disch := omega) only [zI_le]
    rw [if_pos (by omega)]
    exact Ho_some ⟨rfl, h1, h2⟩
  · intro n i s hi ⟨i0, h1, h2⟩ hc
    show Ho (fX3_sortKind_s5 N k2 n2 _ _ _ _ _) _
    obtain ⟨k, rfl⟩ : ∃ k : Nat, i = k := ⟨i.toNat, by omega⟩
    rw [show ((k : Int)).toNat = k by omega] at h1
    have hv := hval k hi
    obtain ⟨kb, kt, kh, ke, _⟩ := hw
    have rr := it_rng kh ke hv
    have hbs : ∀ s' : qMem, (∀ k j, ¬ sortW k j → gi s' k j = gi σ k j) → bookS s'.1 1 ∧ bookK s'.1 1 κ := by
      intro s' h
      constructor
      · rw [bookS_d (m := σ.1) (m' := s'.1) (fun k j q1 q2 => h k j (by unfold sortW; omega))]; exact hb
      · rw [bookK_c (m := σ.1) (m' := s'.1) (fun k j q1 q2 q3 q4 => h k j (by unfold sortW; omega))]; exact hk
    have hat : ∀ f : Int, 0 ≤ f → f ≤ 2 → fX8_at k2 n2 (zI (k : Int)) (zI f) s = some (zI (itF κ (e, k) f)) := by
      intro f f0 f1
      rw [e_at (w := 3) (s := mo) (by rw [h2 _ _ (by unfold sortW; omega)]; exact hw2) (by rw [h2 _ _ (by unfold sortW; omega)]; exact hn) (by omega) hi f0 (by omega) (by omega) (by omega) (by omega), h2 _ _ (by unfold sortW; omega), show ((k : Int) * 3 + f).toNat = 3 * k + f.toNat by omega, hrd k f hi f0 f1]
    unfold fX3_sortKind_s5
    rw [h2 k2 3 (by unfold sortW; omega), hn]
    have cn : (zI mo ≤ zI (k : Int)) = False := by rw [zI_le (by omega) (by omega) (by omega) (by omega)]; exact eq_false (by omega)
    simp only [cn, if_false]
    rw [show fX8_at k2 n2 (zI (k : Int)) 0 s = _ from hat 0 (by omega) (by omega), Option.bind_some, show fX8_at k2 n2 (zI (k : Int)) 1 s = _ from hat 1 (by omega) (by omega), Option.bind_some, show fX8_at k2 n2 (zI (k : Int)) 2 s = _ from hat 2 (by omega) (by omega), Option.bind_some]
    have hk' := (hbs s h2)
    have hw' : KW κ := ⟨kb, kt, kh, ke, by assumption⟩
    have K1 := (e_known (N := N) (σ := s) hN hk'.1 hk'.2 hw' hv).1
    have fr62 : ∀ s' s'' : qMem, (∀ k j, ¬ sortW k j → gi s' k j = gi σ k j) → (∀ k j, k ≠ 62 → gi s'' k j = gi s' k j) → (∀ k j, ¬ sortW k j → gi s'' k j = gi σ k j) := fun s' s'' q1 q2 k j q3 => (q2 k j (fun z => q3 (by unfold sortW; omega))).trans (q1 k j q3)
    have kn1 : zI (k : Int) + 1 = zI ((k : Int) + 1) := zI_add _ 1
    have finK : ∀ s' : qMem, knownB κ (e, k) = true → freshAt s'.1 κ (L0 ++ newsK κ e k) → (∀ k j, ¬ sortW k j → gi s' k j = gi σ k j) → Ho (fX3_sortKind_b83 N k2 n2 (fX3_sortKind_l5 N k2 n2 n) (bI e) (wd (fun j => decide ((j : Int) < (k : Int)) && knownB κ (e, j))) (zI (k : Int)) s') (fun a => a.1 = wd (fun k => decide ((k : Int) < mo) && knownB κ (e, k)) ∧ freshAt a.2.1 κ (L0 ++ newsK κ e mo.toNat) ∧ ∀ k j, ¬ sortW k j → gi a.2 k j = gi σ k j) := by
      intro s' q1 q2 q3
      unfold fX3_sortKind_b83 fX3_sortKind_b119
      rw [kn1, zI_nat (a := (k : Int)) (by omega), show ((k : Int)).toNat = k by omega, wd_one (by omega), wd_or]
      have ew : (fun j : Nat => (decide ((j : Int) < (k : Int)) && knownB κ (e, j)) || decide (j = k)) = (fun j : Nat => decide ((j : Int) < (k : Int) + 1) && knownB κ (e, j)) := by
        funext j
        by_cases qj : j = k
        · subst qj
          rw [q1, decide_eq_true (show (j : Int) < (j : Int) + 1 by omega)]
          simp
        · rw [decide_eq_false qj, Bool.or_false]
          congr 1
          exact decide_eq_decide.mpr (by omega)
      show Ho (fX3_sortKind_l5 N k2 n2 n (bI e) (wd (fun j : Nat => (decide ((j : Int) < (k : Int)) && knownB κ (e, j)) || decide (j = k))) (zI ((k : Int) + 1)) s') _
      rw [ew]
      refine hc s' ⟨by omega, ?_, q3⟩
      rw [show ((k : Int) + 1).toNat = k + 1 by omega, newsK_succ, if_pos q1, List.append_nil]
      exact q2
    have fr62' : ∀ s' s'' : qMem, freshAt s'.1 κ (L0 ++ newsK κ e k) → (∀ k j, k ≠ 62 → gi s'' k j = gi s' k j) → freshAt s''.1 κ (L0 ++ newsK κ e k) := fun s' s'' q1 q2 => freshAt_c (m := s'.1) (m' := s''.1) (fun a j q => q2 a j (by omega)) q1
    refine Ho_bind K1 fun a ⟨u1, A, u2, u3⟩ => ?_
    rw [u2, if_bI]
    by_cases qA : A = true
    · rw [if_pos qA]
      refine finK a.2 ?_ (fr62' s a.2 h1 u1) (fr62 s a.2 h2 u1)
      exact dcB_t (Or.inl (u3.mp qA))
    · rw [if_neg qA]
      have hk'' := hbs a.2 (fr62 s a.2 h2 u1)
      have K2 := (e_known (N := N) (σ := a.2) hN hk''.1 hk''.2 hw' hv).2
      refine Ho_bind K2 fun a2 ⟨u4, A2, u5, u6⟩ => ?_
      rw [u5, if_bI]
      have g1 := fr62 a.2 a2.2 (fr62 s a.2 h2 u1) u4
      have g2 := fr62' a.2 a2.2 (fr62' s a.2 h1 u1) u4
      by_cases qB : A2 = true
      · rw [if_pos qB]
        refine finK a2.2 ?_ g2 g1
        exact dcB_t (Or.inr (u6.mp qB))
      · rw [if_neg qB]
        have hnk : knownB κ (e, k) = false := dcB_f (fun z => by
          rcases z with z | z
          · exact qA (u3.mpr z)
          · exact qB (u6.mpr z))
        rw [e_isBoat (by omega) (by omega), Option.bind_some, decide_eq_true rr.1, bI_t, if_neg (by decide)]
        generalize hbb : itF κ (e, k) 0 = b at *
        obtain ⟨b', rfl⟩ : ∃ b' : Nat, b = b' := ⟨b.toNat, by omega⟩
        have cb : (ck (zI (b' : Int)) 2 = true) = True := zI_ckT (by omega) (by omega) (by omega)
        have zb : (zI (b' : Int)).toNatClampNeg = b' := by rw [zI_clamp (by omega) (by omega)]; omega
        simp only [cb, if_true, zb]
        have len1 := freshL_len κ b' (L0 ++ newsK κ e k)
        have len2 := newsK_len κ e k
        rw [List.length_append] at len1
        have shb : rowS a2.2.1 (46 + 2 * b') 3 36 := by
          rcases (by omega : b' = 0 ∨ b' = 1) with rfl | rfl
          · exact ⟨(g1 46 0 (by unfold sortW; omega)).trans hsh.1.1, (g1 46 1 (by unfold sortW; omega)).trans hsh.1.2⟩
          · exact ⟨(g1 48 0 (by unfold sortW; omega)).trans hsh.2.1, (g1 48 1 (by unfold sortW; omega)).trans hsh.2.2⟩
        obtain ⟨s3, e3, g3⟩ := e_add (σ := a2.2) (k := 46 + 2 * b') (n := 108) (w := 3) (mo := 36) (s := ((freshL κ b' (L0 ++ newsK κ e k)).length : Int)) (bI e) (zI (itF κ (e, k) 1)) (zI (itF κ (e, k) 2)) 0 0 shb.1 shb.2 ((g2 b' (by omega)).1) (by omega) (by omega) (by omega) (by omega) (by omega) (by omega)
        rw [e3, Option.bind_some]
        unfold fX3_sortKind_b119
        rw [kn1]
        have ew : (fun j : Nat => decide ((j : Int) < (k : Int)) && knownB κ (e, j)) = (fun j : Nat => decide ((j : Int) < (k : Int) + 1) && knownB κ (e, j)) := by
          funext j
          by_cases qj : j = k
          · subst qj
            rw [hnk]
            simp
          · congr 1
            exact decide_eq_decide.mpr (by omega)
        rw [ew]
        refine hc s3 ⟨by omega, ?_, fun x j hx => ?_⟩
        · rw [show ((k : Int) + 1).toNat = k + 1 by omega, newsK_succ, if_neg (by rw [hnk]; simp), ← List.append_assoc]
          intro c hc2
          rw [freshL_snoc, hbb]
          by_cases qc : (b' : Int) = (c : Int)
          · have ec : b' = c := by omega
            subst ec
            rw [if_pos rfl]
            refine ⟨?_, fun x jt hx => ?_⟩
            · show gi s3 _ _ = _
              rw [g3, if_pos ⟨rfl, rfl⟩, List.length_append]
              congr 1
            · show gi s3 _ _ = _ ∧ gi s3 _ _ = _ ∧ gi s3 _ _ = _
              by_cases qx : x < (freshL κ (b' : Int) (L0 ++ newsK κ e k)).length
              · rw [List.getElem?_append_left qx] at hx
                rw [g3, g3, g3, if_neg (by omega), if_neg (by omega), if_neg (by omega), if_neg (by omega), if_neg (by omega), if_neg (by omega)]
                exact (g2 b' hc2).2 x jt hx
              · have hx2 := (List.getElem?_eq_some_iff.mp hx).1
                rw [List.length_append] at hx2
                have ex : x = (freshL κ (b' : Int) (L0 ++ newsK κ e k)).length := by simp at hx2; omega
                rw [ex, List.getElem?_append_right (Nat.le_refl _), Nat.sub_self] at hx
                have ej : jt = (e, k) := by simpa using hx.symm
                subst ej
                have z0 : 3 * (freshL κ (b' : Int) (L0 ++ newsK κ e k)).length - (((freshL κ (b' : Int) (L0 ++ newsK κ e k)).length : Int) * 3).toNat = 0 := by omega
                have z1 : 3 * (freshL κ (b' : Int) (L0 ++ newsK κ e k)).length + 1 - (((freshL κ (b' : Int) (L0 ++ newsK κ e k)).length : Int) * 3).toNat = 1 := by omega
                have z2 : 3 * (freshL κ (b' : Int) (L0 ++ newsK κ e k)).length + 2 - (((freshL κ (b' : Int) (L0 ++ newsK κ e k)).length : Int) * 3).toNat = 2 := by omega
                have r0 := g3 (47 + 2 * b') (3 * (freshL κ (b' : Int) (L0 ++ newsK κ e k)).length)
                have r1 := g3 (47 + 2 * b') (3 * (freshL κ (b' : Int) (L0 ++ newsK κ e k)).length + 1)
                have r2 := g3 (47 + 2 * b') (3 * (freshL κ (b' : Int) (L0 ++ newsK κ e k)).length + 2)
                rw [if_neg (by omega), if_pos (by omega), z0] at r0
                rw [if_neg (by omega), if_pos (by omega), z1] at r1
                rw [if_neg (by omega), if_pos (by omega), z2] at r2
                rw [ex]
                exact ⟨r0, r1, r2⟩
          · rw [if_neg qc, List.append_nil]
            have := g2 c hc2
            refine ⟨?_, fun x jt hx => ?_⟩
            · show gi s3 _ _ = _
              rw [g3, if_neg (by omega), if_neg (by omega)]
              exact this.1
            · show gi s3 _ _ = _ ∧ gi s3 _ _ = _ ∧ gi s3 _ _ = _
              rw [g3, g3, g3, if_neg (by omega), if_neg (by omega), if_neg (by omega), if_neg (by omega), if_neg (by omega), if_neg (by omega)]
              exact this.2 x jt hx
        · rw [g3, if_neg (by unfold sortW at hx; omega), if_neg (by unfold sortW at hx; omega)]
          exact g1 x j hx
  · refine ⟨by omega, ?_, fun _ _ _ => rfl⟩
    have : newsK κ e (Int.toNat 0) = [] := rfl
    rw [this, List.append_nil]
    exact hf
theorem e_sortOut {N : Nat} {σ : qMem} {κ : Nat → Int32} (hN : 200000 ≤ N) (h : CI σ.1 κ) : Ho (fX3_sortOut N σ) (fun τ => sorts τ.1 κ ∧ gi τ 44 15 ≠ 0 ∧ CI τ.1 κ ∧ SC σ τ ∧ ∀ k j, ¬ (sortW k j ∨ (k = 44 ∧ (j = 12 ∨ j = 13 ∨ j = 15))) → gi τ k j = gi σ k j) := by
  have h0 := h
  obtain ⟨hb, hk, hw, hcc⟩ := h
  have hcc0 := hcc
  obtain ⟨c1, c2, c3, c4, c5, c6⟩ := hcc
  unfold fX3_sortOut
  by_cases q : gi σ 44 15 = 0
  · rw [if_pos q]
    have kh := hw.2.2.1
    have ke := hw.2.2.2.1
    have n1 := kh.1
    have n2 := ke.1
    have g1 : ∀ k j, gi (si (si σ 46 3 0) 48 3 0) k j = if k = 48 ∧ j = 3 then 0 else if k = 46 ∧ j = 3 then 0 else gi σ k j := by
      intro k j; simp only [gi_si]
    generalize hs2 : si (si σ 46 3 0) 48 3 0 = s2 at g1
    have o2 : ∀ k j, ¬ sortW k j → gi s2 k j = gi σ k j := by
      intro k j hh
      unfold sortW at hh
      rw [g1, if_neg (by omega), if_neg (by omega)]
    have bS : ∀ s : qMem, (∀ k j, ¬ (sortW k j ∨ (k = 44 ∧ (j = 12 ∨ j = 13 ∨ j = 15))) → gi s k j = gi σ k j) → bookS s.1 1 ∧ bookK s.1 1 κ ∧ rowS s.1 46 3 36 ∧ rowS s.1 48 3 36 := by
      intro s hh
      refine ⟨?_, ?_, ?_, ?_⟩
      · rw [bookS_d (m := σ.1) (m' := s.1) (fun k j q1 q2 => hh k j (by unfold sortW; omega))]; exact hb
      · rw [bookK_c (m := σ.1) (m' := s.1) (fun k j q1 q2 q3 q4 => hh k j (by unfold sortW; omega))]; exact hk
      · exact ⟨(hh 46 0 (by unfold sortW; omega)).trans c1.1, (hh 46 1 (by unfold sortW; omega)).trans c1.2⟩
      · exact ⟨(hh 48 0 (by unfold sortW; omega)).trans c2.1, (hh 48 1 (by unfold sortW; omega)).trans c2.2⟩
    have b2 := bS s2 (fun k j hh => o2 k j (fun z => hh (Or.inl z)))
    obtain ⟨t1, t2, t3, t4, t5, t6, _⟩ := hk
    show Ho ((fX3_sortKind N 0 19 72 (si (si σ 46 3 0) 48 3 0)).bind _) _
    rw [hs2, show (fX3_sortKind N 0 19 72 s2) = fX3_sortKind N (bI false) 19 72 s2 from rfl]
    refine Ho_bind (e_sortKind (κ := κ) (L0 := []) (base := 80) (cnt := 300) (mo := kI κ 300) hN b2.1 b2.2.1 hw ⟨b2.2.2.1, b2.2.2.2⟩ (Or.inl ⟨rfl, rfl, rfl⟩) (by rw [o2 19 3 (by unfold sortW; omega)]; exact t5.1.trans (zI_of _).symm) n1 (by rw [o2 19 0 (by unfold sortW; omega)]; exact hb.2.2.1.1) (by omega) (fun k hk2 => Or.inl ⟨rfl, hk2⟩) (fun k f k1 f0 f1 => by
      rw [o2 20 _ (by unfold sortW; omega)]
      refine (t5.2 _ (by omega)).trans ((zI_of _).symm.trans ?_)
      rw [itF_h]
      unfold kI
      rw [show (80 + 3 * (k : Int) + f).toNat = 80 + (3 * k + f.toNat) by omega]) (by simp; omega) (fun b hb2 => ⟨by
        show gi s2 _ _ = _
        rw [g1]
        rcases (by omega : b = 0 ∨ b = 1) with rfl | rfl
        · rw [if_neg (by omega), if_pos (by omega)]; rfl
        · rw [if_pos (by omega)]; rfl, fun i it hi => by simp [freshL] at hi⟩)) fun a ⟨u1, u2, u3⟩ => ?_
    rw [List.nil_append] at u2
    have g4 : ∀ k j, gi (si a.2 44 12 a.1) k j = if k = 44 ∧ j = 12 then a.1 else gi a.2 k j := by intro k j; rw [gi_si]
    generalize hs4 : si a.2 44 12 a.1 = s4 at g4
    have o4 : ∀ k j, ¬ (sortW k j ∨ (k = 44 ∧ (j = 12 ∨ j = 13 ∨ j = 15))) → gi s4 k j = gi σ k j := by
      intro k j hh
      rw [g4, if_neg (by omega), u3 k j (fun z => hh (Or.inl z)), o2 k j (fun z => hh (Or.inl z))]
    have b4 := bS s4 o4
    show Ho ((fX3_sortKind N 1 21 36 s4).bind _) _
    rw [show (fX3_sortKind N 1 21 36 s4) = fX3_sortKind N (bI true) 21 36 s4 from rfl]
    have len1 := newsK_len κ false (kI κ 300).toNat
    refine Ho_bind (e_sortKind (κ := κ) (L0 := newsK κ false (kI κ 300).toNat) (base := 152) (cnt := 301) (mo := kI κ 301) hN b4.1 b4.2.1 hw ⟨b4.2.2.1, b4.2.2.2⟩ (Or.inr ⟨rfl, rfl, rfl⟩) (by rw [o4 21 3 (by unfold sortW; omega)]; exact t6.1.trans (zI_of _).symm) (by omega) (by rw [o4 21 0 (by unfold sortW; omega)]; exact hb.2.2.2.1.1) (by omega) (fun k hk2 => Or.inr ⟨rfl, hk2⟩) (fun k f k1 f0 f1 => by
      rw [o4 22 _ (by unfold sortW; omega)]
      refine (t6.2 _ (by omega)).trans ((zI_of _).symm.trans ?_)
      rw [itF_e]
      unfold kI
      rw [show (152 + 3 * (k : Int) + f).toNat = 152 + (3 * k + f.toNat) by omega]) (by omega) (freshAt_c (m := a.2.1) (m' := s4.1) (fun k j hh => by
        show gi s4 k j = gi a.2 k j
        rw [g4, if_neg (by omega)]) u2)) fun a2 ⟨w1, w2, w3⟩ => ?_
    have g7 : ∀ k j, gi (si (si a2.2 44 13 a2.1) 44 15 1) k j = if k = 44 ∧ j = 15 then 1 else if k = 44 ∧ j = 13 then a2.1 else gi a2.2 k j := by intro k j; simp only [gi_si]
    generalize hs7 : si (si a2.2 44 13 a2.1) 44 15 1 = s7 at g7
    have o7 : ∀ k j, ¬ (sortW k j ∨ (k = 44 ∧ (j = 12 ∨ j = 13 ∨ j = 15))) → gi s7 k j = gi σ k j := by
      intro k j hh
      rw [g7, if_neg (by omega), if_neg (by omega), w3 k j (fun z => hh (Or.inl z)), o4 k j hh]
    have b7 := bS s7 o7
    show Ho (some (si (si a2.2 44 13 a2.1) 44 15 1)) _
    rw [hs7]
    have hso : sorts s7.1 κ := by
      refine ⟨fun k hk2 => ?_, fun k hk2 => ?_, fun b hb2 => ?_⟩
      · show bt (gi s7 44 12) k = _
        rw [g7, if_neg (by omega), if_neg (by omega), w3 44 12 (by unfold sortW; omega), g4, if_pos ⟨rfl, rfl⟩, u1, bt_wd _ (by omega), decide_eq_true hk2, Bool.true_and]
      · show bt (gi s7 44 13) k = _
        rw [g7, if_neg (by omega), if_pos ⟨rfl, rfl⟩, w1, bt_wd _ (by omega), decide_eq_true hk2, Bool.true_and]
      · exact freshAt_c (m := a2.2.1) (m' := s7.1) (fun k j hh => by
          show gi s7 k j = gi a2.2 k j
          rw [g7, if_neg (by omega), if_neg (by omega)]) w2 b hb2
    have f15 : gi s7 44 15 ≠ 0 := by rw [g7, if_pos ⟨rfl, rfl⟩]; decide
    have hsc : SC σ s7 := fun k j hh => o7 k j (by unfold scrC at hh; unfold sortW; omega)
    refine Ho_some ⟨hso, f15, ⟨b7.1, b7.2.1, hw, b7.2.2.1, b7.2.2.2, fun _ => hso, fun z => ?_, fun z => ?_, fun z => ?_⟩, hsc, o7⟩
    · have z2 : gi s7 44 16 ≠ 0 := z
      rw [o7 44 16 (by unfold sortW; omega)] at z2
      intro b hb2
      refine ⟨fun j hj => ?_, fun j hj => ?_⟩
      · exact (o7 (51 + 3 * b + 1) j (by unfold sortW; omega)).trans ((c4 z2 b hb2).1 j hj)
      · exact (o7 (51 + 3 * b + 2) j (by unfold sortW; omega)).trans ((c4 z2 b hb2).2 j hj)
    · have z2 : gi s7 44 17 ≠ 0 := z
      rw [o7 44 17 (by unfold sortW; omega)] at z2
      refine ⟨fun l hl => ?_, ?_⟩
      · exact (o7 61 l (by unfold sortW; omega)).trans ((c5 z2).1 l hl)
      · exact (o7 44 14 (by unfold sortW; omega)).trans (c5 z2).2
    · have z2 : gi s7 68 8 ≠ 0 := z
      rw [o7 68 8 (by unfold sortW; omega)] at z2
      obtain ⟨r1, f, fr, r2, r3, r4⟩ := c6 z2
      refine ⟨fun k hk2 => ?_, f, fr, ?_, ?_, r4⟩
      · exact (o7 72 k (by unfold sortW; omega)).trans (r1 k hk2)
      · exact (o7 68 6 (by unfold sortW; omega)).trans r2
      · exact (o7 68 7 (by unfold sortW; omega)).trans r3
  · rw [if_neg q]
    exact Ho_some ⟨c3 q, q, h0, SC_refl _, fun _ _ _ => rfl⟩
