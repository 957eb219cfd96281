/-! the reference's runs -/
def RS (τ0 : qMem) (κ : Nat → Int32) (τ : qMem) : Prop := (∀ k j, k ≠ 5 → ¬ (k = 0 ∧ j = 7) → gi τ k j = gi τ0 k j) ∧ (gi τ 0 7 = gi τ 0 2 → carrOK τ.1 κ) ∧ (gi τ 0 7 = gi τ0 0 7 ∨ gi τ 0 7 = gi τ0 0 2)
theorem RS_refl {τ : qMem} {κ : Nat → Int32} (h : gi τ 0 7 = gi τ 0 2 → carrOK τ.1 κ) : RS τ κ τ := ⟨fun _ _ _ _ => rfl, h, Or.inl rfl⟩
theorem RS_news {τ0 τ : qMem} {κ : Nat → Int32} (h : RS τ0 κ τ) (hn : newsOK τ0.1 κ) : newsOK τ.1 κ := newsOK_c (t := τ0.1) (t' := τ.1) (fun k j q => h.1 k j (by omega) (by omega)) hn
theorem RS_κ {τ0 τ : qMem} {κ : Nat → Int32} (h : RS τ0 κ τ) (hκ : τ0.1 2 = κ) : τ.1 2 = κ := by rw [← hκ]; exact funext fun j => h.1 2 j (by omega) (by omega)
theorem r_isFit {N : Nat} {τ0 τ : qMem} {κ : Nat → Int32} {n : Nat} {it : Bool × Nat} {bell x y : Int} (hN : 200000 ≤ N) (hκ : τ0.1 2 = κ) (hw : KW κ) (hn : newsOK τ0.1 κ) (h : RS τ0 κ τ) (hit : (newsL κ)[n]? = some it) (l0 : 0 ≤ bell) (l1 : bell ≤ 23) (x0 : -69 ≤ x) (x1 : x ≤ 100) (y0 : -69 ≤ y) (y1 : y ≤ 100) :
    Ho (fX12_isFit N (zI n) (zI bell) (zI x) (zI y) τ) (fun a => a.1 = bI (fitB κ it bell x y) ∧ RS τ0 κ a.2) := by
  have eκ := RS_κ h hκ
  obtain ⟨kb, kt, kh, ke, _⟩ := hw
  have hv := (newsL_mem (List.mem_of_getElem? hit)).1
  have rr := it_rng kh ke hv
  have hl2 := newsL_len kh ke
  have hi := (List.getElem?_eq_some_iff.mp hit).1
  obtain ⟨g0, g1, g2, g3⟩ := (RS_news h hn).2 n it hit
  have p0 := pos_rng (bell := bell) (w := 0) kb rr.1.1 rr.1.2 (Or.inl rfl) l1
  have p1 := pos_rng (bell := bell) (w := 1) kb rr.1.1 rr.1.2 (Or.inr rfl) l1
  have dp := (kb (itF κ it 0) rr.1.1 rr.1.2).2.2.1
  have a0 := r_at (τ := τ) (w := 0) hN (by rw [eκ]; exact kb) rr.1.1 rr.1.2 l0 l1 (Or.inl rfl)
  have a1 := r_at (τ := τ) (w := 1) hN (by rw [eκ]; exact kb) rr.1.1 rr.1.2 l0 l1 (Or.inr rfl)
  rw [eκ] at a0 a1
  have hcar : ∀ u0 : Bool, u0 = wayB κ it (x - pos κ (itF κ it 0) bell 0) (y - pos κ (itF κ it 0) bell 1) → Ho (fX12_isFit_b87 N (zI (itF κ it 0)) (zI (x - pos κ (itF κ it 0) bell 0)) (zI (y - pos κ (itF κ it 0) bell 1)) (bI u0) τ) (fun a => a.1 = bI (fitB κ it bell x y) ∧ RS τ0 κ a.2) := by
    intro u0 hu
    unfold fX12_isFit_b87 fX12_isFit_b130
    rw [if_bI]
    cases u0
    · rw [if_neg (by simp)]
      refine Ho_some ⟨?_, h⟩
      unfold fitB
      rw [← hu]; rfl
    · rw [if_pos rfl]
      have e3 : fX12_term 3 τ = some (zI (kI κ 47)) := by rw [← eκ]; exact r_term (t := 3) (by omega) (by omega)
      have e2 : fX12_boatOf (zI (itF κ it 0)) 2 τ = some (zI (depS κ (itF κ it 0))) := by rw [← eκ]; exact r_boatOf (f := 2) (by rw [eκ]; exact rr.1.1) (by rw [eκ]; exact rr.1.2) (by omega) (by omega)
      have em : mxS (x - pos κ (itF κ it 0) bell 0) (y - pos κ (itF κ it 0) bell 1) = max (max (x - pos κ (itF κ it 0) bell 0) (-(x - pos κ (itF κ it 0) bell 0))) (max (y - pos κ (itF κ it 0) bell 1) (-(y - pos κ (itF κ it 0) bell 1))) := rfl
      rw [e3, Option.bind_some, e2, Option.bind_some, r_size (by omega) (by omega), Option.bind_some, r_size (by omega) (by omega), Option.bind_some, r_more (by omega) (by omega) (by omega) (by omega), Option.bind_some, ← em]
      refine Ho_bind (r_carr hN eκ kt kt.2.2.2.1.1 kt.2.2.2.1.2 dp.1 dp.2 (by omega) (by omega) h.2.1) fun a ⟨q1, q2, q3, q4⟩ => ?_
      have hRS : RS τ0 κ a.2 := by
        refine ⟨fun k j k1 k2 => (q4 k j k1 k2).trans (h.1 k j k1 k2), fun _ => q3, ?_⟩
        rw [q2, h.1 0 2 (by omega) (by omega)]
        exact Or.inr rfl
      have ef : fitB κ it bell x y = reachB κ (kI κ 47) (depS κ (itF κ it 0)) (mxS (x - pos κ (itF κ it 0) bell 0) (y - pos κ (itF κ it 0) bell 1)) := by
        unfold fitB
        rw [← hu, Bool.true_and]
      rw [q1, if_bI, ef]
      by_cases qq : reachB κ (kI κ 47) (depS κ (itF κ it 0)) (mxS (x - pos κ (itF κ it 0) bell 0) (y - pos κ (itF κ it 0) bell 1)) = true
      · rw [if_pos qq, qq]
        exact Ho_some ⟨rfl, hRS⟩
      · rw [if_neg qq]
        rw [Bool.not_eq_true] at qq
        rw [qq]
        exact Ho_some ⟨rfl, hRS⟩
  unfold fX12_isFit
  have m4 : 4 * zI (n : Int) = zI (4 * n) := zI_mul 4 _
  have m42 : zI (4 * (n : Int)) + 2 = zI (4 * n + 2) := zI_add _ 2
  have m43 : zI (4 * (n : Int)) + 3 = zI (4 * n + 3) := zI_add _ 3
  have cA : (ck (zI (4 * (n : Int))) 144 = true) = True := zI_ckT (by omega) (by omega) (by omega)
  have cB' : (ck (zI (4 * (n : Int) + 2)) 144 = true) = True := zI_ckT (by omega) (by omega) (by omega)
  have cC : (ck (zI (4 * (n : Int) + 3)) 144 = true) = True := zI_ckT (by omega) (by omega) (by omega)
  have zA : (zI (4 * (n : Int))).toNatClampNeg = 4 * n := by rw [zI_clamp (by omega) (by omega)]; omega
  have zB : (zI (4 * (n : Int) + 2)).toNatClampNeg = 4 * n + 2 := by rw [zI_clamp (by omega) (by omega)]; omega
  have zC : (zI (4 * (n : Int) + 3)).toNatClampNeg = 4 * n + 3 := by rw [zI_clamp (by omega) (by omega)]; omega
  have g0' : gi τ 6 (4 * n) = _ := g0
  have g2' : gi τ 6 (4 * n + 2) = _ := g2
  have g3' : gi τ 6 (4 * n + 3) = _ := g3
  simp only [m4, m42, m43, cA, cB', cC, if_true, zA, zB, zC, nmI, g0', g2', g3', if_bI]
  rw [show fX12_at N (zI (itF κ it 0)) (zI bell) 0 τ = _ from a0, Option.bind_some, show fX12_at N (zI (itF κ it 0)) (zI bell) 1 τ = _ from a1, Option.bind_some, zI_sub, zI_sub]
  have hbh := kh.1
  have hbe := ke.1
  rcases hv with ⟨ee, kk⟩ | ⟨ee, kk⟩
  · obtain ⟨e, k⟩ := it
    simp only at ee kk
    subst ee
    rw [if_neg (by simp)]
    have ht := r_isTow (τ := τ) (h := k) (by rw [eκ]; exact kt) (by omega) (by omega) (by rw [eκ]; exact ⟨rr.2.2.1.1, rr.2.2.2 rfl⟩) (x := x - pos κ (itF κ (false, k) 0) bell 0) (y := y - pos κ (itF κ (false, k) 0) bell 1) (by omega) (by omega) (by omega) (by omega)
    rw [ht, Option.bind_some]
    exact hcar _ (by rw [eκ]; rfl)
  · obtain ⟨e, k⟩ := it
    simp only at ee kk
    subst ee
    rw [if_pos rfl]
    have ht := r_isFar (τ := τ) (h := k) (by rw [eκ]; exact kt) (by omega) (by omega) (by rw [eκ]; exact rr.2.2.1) (x := x - pos κ (itF κ (true, k) 0) bell 0) (y := y - pos κ (itF κ (true, k) 0) bell 1) (by omega) (by omega) (by omega) (by omega)
    rw [ht, Option.bind_some]
    exact hcar _ (by rw [eκ]; rfl)
theorem countP_take_succ {α : Type} {L : List α} {i : Nat} {a : α} (h : L[i]? = some a) (p : α → Bool) : (L.take (i + 1)).countP p = (L.take i).countP p + (if p a then 1 else 0) := by
  rw [List.take_add_one, h, List.countP_append]
  congr 1
  cases hp : p a <;> simp [List.countP_cons, hp]
theorem r_missed {N : Nat} {τ0 τ : qMem} {κ : Nat → Int32} {b s x y u v most : Int} (hN : 200000 ≤ N) (hκ : τ0.1 2 = κ) (hw : KW κ) (hn : newsOK τ0.1 κ) (h : RS τ0 κ τ) (b0 : 0 ≤ b) (b1 : b ≤ 1) (s0 : -3 ≤ s) (s1 : s ≤ 3) (x0 : 0 ≤ x) (x1 : x ≤ 31) (y0 : 0 ≤ y) (y1 : y ≤ 31) (u0 : -3 ≤ u) (u1 : u ≤ 3) (v0 : -3 ≤ v) (v1 : v ≤ 3) (m0 : 0 ≤ most) (m1 : most ≤ 100) :
    Ho (fX12_missed N (zI b) (zI s) (zI x) (zI y) (zI u) (zI v) (zI most) τ) (fun a => RS τ0 κ a.2 ∧ ∃ r : Nat, a.1 = zI r ∧ (r = missOf κ b s x y u v ∨ (most < r ∧ r ≤ missOf κ b s x y u v))) := by
  have hl2 := newsL_len hw.2.2.1 hw.2.2.2.1
  unfold fX12_missed
  generalize hP : (fun it => decide (itF κ it 0 = b) && !okB κ it s x y u v) = P
  have hm : missOf κ b s x y u v = (newsL κ).countP P := by unfold missOf; rw [hP]
  rw [show fX12_missed_l6 N N (zI b) (zI s) (zI x) (zI y) (zI u) (zI v) (zI most) 0 0 τ = fX12_missed_l6 N N (zI b) (zI s) (zI x) (zI y) (zI u) (zI v) (zI most) (zI 0) (zI 0) τ from rfl]
  refine lp_for (S := Int × qMem) (R := Int32 × qMem) (fun n i p => fX12_missed_l6 N n (zI b) (zI s) (zI x) (zI y) (zI u) (zI v) (zI most) (zI p.1) (zI i) p.2) (fun i p => 0 ≤ i ∧ RS τ0 κ p.2 ∧ p.1 = ((newsL κ).take i.toNat).countP P) _ (newsL κ).length ?_ ?_ N 0 (0, τ) (by omega) (by omega) ⟨by omega, h, rfl⟩
  · intro n p ⟨_, h1, h2⟩
    show Ho (fX12_missed_s6 N _ _ _ _ _ _ _ _ _ _ _) _
    unfold fX12_missed_s6
    have g10 : gi p.2 0 10 = zI (newsL κ).length := (RS_news h1 hn).1
    have c : (zI ((newsL κ).length : Int) ≤ zI ((newsL κ).length : Int)) = True := by rw [zI_le (by omega) (by omega) (by omega) (by omega)]; exact eq_true (by omega)
    simp only [g10, c, if_true]
    refine Ho_some ⟨h1, ((newsL κ).take ((newsL κ).length : Int).toNat).countP P, by rw [h2], Or.inl ?_⟩
    rw [hm, show (((newsL κ).length : Int)).toNat = (newsL κ).length by omega, List.take_length]
  · intro n i p hi ⟨i0, h1, h2⟩ hc
    obtain ⟨cnt, ρ⟩ := p
    simp only at h1 h2
    show Ho (fX12_missed_s6 N _ _ _ _ _ _ _ _ _ _ _) _
    have hil : i.toNat < (newsL κ).length := by omega
    obtain ⟨it, hit⟩ : ∃ it, (newsL κ)[i.toNat]? = some it := ⟨(newsL κ)[i.toNat], List.getElem?_eq_getElem hil⟩
    obtain ⟨g0, g1, g2, g3⟩ := (RS_news h1 hn).2 i.toNat it hit
    have hv := (newsL_mem (List.mem_of_getElem? hit)).1
    have rr := it_rng hw.2.2.1 hw.2.2.2.1 hv
    have hcl : ((newsL κ).take i.toNat).countP P ≤ (newsL κ).countP P := by
      have := List.countP_append (p := P) (l₁ := (newsL κ).take i.toNat) (l₂ := (newsL κ).drop i.toNat)
      rw [List.take_append_drop] at this
      omega
    have hcb : ((newsL κ).take i.toNat).countP P ≤ 36 := Nat.le_trans hcl (Nat.le_trans List.countP_le_length hl2)
    unfold fX12_missed_s6 fX12_missed_b93 fX12_missed_b94 fX12_missed_b97
    have g10 : gi ρ 0 10 = zI (newsL κ).length := (RS_news h1 hn).1
    have c1 : (zI ((newsL κ).length : Int) ≤ zI i) = False := by rw [zI_le (by omega) (by omega) (by omega) (by omega)]; exact eq_false (by omega)
    have c2 : (zI most < zI cnt) = (most < cnt) := zI_lt (by omega) (by omega) (by omega) (by omega)
    have m4 : 4 * zI i = zI (4 * i) := zI_mul 4 _
    have m41 : zI (4 * i) + 1 = zI (4 * i + 1) := zI_add _ 1
    have cA : (ck (zI (4 * i)) 144 = true) = True := zI_ckT (by omega) (by omega) (by omega)
    have cB' : (ck (zI (4 * i + 1)) 144 = true) = True := zI_ckT (by omega) (by omega) (by omega)
    have zA : (zI (4 * i)).toNatClampNeg = 4 * i.toNat := by rw [zI_clamp (by omega) (by omega)]; omega
    have zB : (zI (4 * i + 1)).toNatClampNeg = 4 * i.toNat + 1 := by rw [zI_clamp (by omega) (by omega)]; omega
    have g0' : gi ρ 6 (4 * i.toNat) = _ := g0
    have g1' : gi ρ 6 (4 * i.toNat + 1) = _ := g1
    have c3 : (zI (itF κ it 0) = zI b) = (itF κ it 0 = b) := zI_eq (by omega) (by omega) (by omega) (by omega)
    have i1 : zI i + 1 = zI (i + 1) := zI_add i 1
    have eb : fX12_isBell (zI (itF κ it 1 + s)) = some (bI (decide (0 ≤ itF κ it 1 + s ∧ itF κ it 1 + s ≤ 23))) := r_isBell (by omega) (by omega)
    simp only [g10, c1, if_false, c2, m4, m41, cA, cB', if_true, zA, zB, g0', g1', c3, nmI, zI_add, eb, Option.bind_some, if_bI, i1, decide_eq_true_eq]
    have st : ∀ (c' : Int) (ρ' : qMem), RS τ0 κ ρ' → c' = cnt + (if P it then 1 else 0) → Ho (fX12_missed_l6 N n (zI b) (zI s) (zI x) (zI y) (zI u) (zI v) (zI most) (zI c') (zI (i + 1)) ρ') (fun a => RS τ0 κ a.2 ∧ ∃ r : Nat, a.1 = zI r ∧ (r = missOf κ b s x y u v ∨ (most < r ∧ r ≤ missOf κ b s x y u v))) := by
      intro c' ρ' q1 q2
      refine hc (c', ρ') ⟨by omega, q1, ?_⟩
      show c' = _
      rw [q2, h2, show (i + 1).toNat = i.toNat + 1 by omega, countP_take_succ hit]
      cases P it <;> simp
    by_cases q : most < cnt
    · rw [if_pos q]
      refine Ho_some ⟨h1, ((newsL κ).take i.toNat).countP P, by rw [h2], Or.inr ⟨by omega, by rw [hm]; exact hcl⟩⟩
    · rw [if_neg q]
      by_cases qb : itF κ it 0 = b
      · rw [if_pos qb]
        have ePit : P it = !okB κ it s x y u v := by rw [← hP]; simp [qb]
        by_cases ql : 0 ≤ itF κ it 1 + s ∧ itF κ it 1 + s ≤ 23
        · rw [if_pos ql]
          have ub := mulb u0 u1 ql.1 ql.2
          have vb := mulb v0 v1 ql.1 ql.2
          rw [zI_mul, zI_mul, zI_add, zI_add]
          have hf := r_isFit (n := i.toNat) (bell := itF κ it 1 + s) (x := x + u * (itF κ it 1 + s)) (y := y + v * (itF κ it 1 + s)) hN hκ hw hn h1 hit ql.1 ql.2 (by omega) (by omega) (by omega) (by omega)
          rw [show ((i.toNat : Nat) : Int) = i by omega] at hf
          refine Ho_bind hf fun a ⟨f1, f2⟩ => ?_
          rw [f1, if_bI]
          have eok : okB κ it s x y u v = fitB κ it (itF κ it 1 + s) (x + u * (itF κ it 1 + s)) (y + v * (itF κ it 1 + s)) := by
            unfold okB
            rw [decide_eq_true ql, Bool.true_and]
          by_cases qf : fitB κ it (itF κ it 1 + s) (x + u * (itF κ it 1 + s)) (y + v * (itF κ it 1 + s)) = true
          · rw [if_pos qf, show zI cnt + 0 = zI (cnt + 0) from zI_add cnt 0]
            exact st _ a.2 f2 (by rw [ePit, eok, qf]; simp)
          · rw [if_neg qf, show zI cnt + 1 = zI (cnt + 1) from zI_add cnt 1]
            rw [Bool.not_eq_true] at qf
            exact st _ a.2 f2 (by rw [ePit, eok, qf]; simp)
        · rw [if_neg ql, show zI cnt + 1 = zI (cnt + 1) from zI_add cnt 1]
          have eok : okB κ it s x y u v = false := by
            unfold okB
            rw [decide_eq_false ql, Bool.false_and]
          exact st _ ρ h1 (by rw [ePit, eok]; simp)
      · rw [if_neg qb]
        exact st cnt ρ h1 (by rw [← hP]; simp [qb])
theorem missOf_le (κ : Nat → Int32) (hw : KW κ) (b s x y u v : Int) : missOf κ b s x y u v ≤ 36 := Nat.le_trans List.countP_le_length (newsL_len hw.2.2.1 hw.2.2.2.1)
theorem mnS_le {f : Nat → Nat} (h : ∀ i, f i ≤ 36) : ∀ n, mnS f n ≤ 100 ∧ (0 < n → mnS f n ≤ 36)
  | 0 => ⟨by simp [mnS], by omega⟩
  | n + 1 => by
    have := mnS_le h n
    have := h n
    rw [mnS]
    omega
theorem r_missedBest {N : Nat} {τ0 τ : qMem} {κ : Nat → Int32} {x y u v : Int} (hN : 200000 ≤ N) (hκ : τ0.1 2 = κ) (hw : KW κ) (hn : newsOK τ0.1 κ) (h : RS τ0 κ τ) (x0 : 0 ≤ x) (x1 : x ≤ 31) (y0 : 0 ≤ y) (y1 : y ≤ 31) (u0 : -3 ≤ u) (u1 : u ≤ 3) (v0 : -3 ≤ v) (v1 : v ≤ 3) :
    Ho (fX12_missedBest N (zI x) (zI y) (zI u) (zI v) τ) (fun a => RS τ0 κ a.2 ∧ a.1 = zI (missBest κ x y u v)) := by
  have hap := hw.2.1.2.2.1
  have ht : ∀ ρ : qMem, RS τ0 κ ρ → fX12_term 2 ρ = some (zI (kI κ 46)) := fun ρ hρ => by rw [← RS_κ hρ hκ]; exact r_term (t := 2) (by omega) (by omega)
  have hf : ∀ i, missOf κ 1 ((i : Nat) - kI κ 46) x y u v ≤ 36 := fun i => missOf_le κ hw _ _ _ _ _ _
  unfold fX12_missedBest
  rw [ht τ h, Option.bind_some, zI_neg, show (100 : Int32) = zI 100 from rfl, show -kI κ 46 = 0 - kI κ 46 by omega]
  refine lp_for (S := Int × qMem) (R := Int32 × qMem) (fun n i p => fX12_missedBest_l12 N n (zI x) (zI y) (zI u) (zI v) (zI p.1) (zI (i - kI κ 46)) p.2) (fun i p => 0 ≤ i ∧ RS τ0 κ p.2 ∧ p.1 = mnS (fun i => missOf κ 1 ((i : Int) - kI κ 46) x y u v) i.toNat) _ (2 * kI κ 46 + 1) ?_ ?_ N 0 (100, τ) (by omega) (by omega) ⟨by omega, h, rfl⟩
  · intro n p ⟨_, h1, h2⟩
    show Ho (fX12_missedBest_s12 N _ _ _ _ _ _ _ _) _
    unfold fX12_missedBest_s12
    have c : (zI (kI κ 46) < zI (2 * kI κ 46 + 1 - kI κ 46)) = True := by rw [zI_lt (by omega) (by omega) (by omega) (by omega)]; exact eq_true (by omega)
    simp only [ht p.2 h1, Option.bind_some, c, if_true]
    have hm := r_missed (b := 0) (s := 0) (x := x) (y := y) (u := u) (v := v) (most := 100) hN hκ hw hn h1 (by omega) (by omega) (by omega) (by omega) x0 x1 y0 y1 u0 u1 v0 v1 (by omega) (by omega)
    refine Ho_bind hm fun a ⟨f1, r, f2, f3⟩ => ?_
    have hle := missOf_le κ hw 0 0 x y u v
    have er : r = missOf κ 0 0 x y u v := by omega
    refine Ho_some ⟨f1, ?_⟩
    show a.1 + zI p.1 = _
    rw [f2, zI_add, h2, er]
    congr 1
  · intro n i p hi ⟨i0, h1, h2⟩ hc
    obtain ⟨ls, ρ⟩ := p
    simp only at h1 h2
    show Ho (fX12_missedBest_s12 N _ _ _ _ _ _ _ _) _
    unfold fX12_missedBest_s12 fX12_missedBest_b49
    have c : (zI (kI κ 46) < zI (i - kI κ 46)) = False := by rw [zI_lt (by omega) (by omega) (by omega) (by omega)]; exact eq_false (by omega)
    have i1 : zI (i - kI κ 46) + 1 = zI (i + 1 - kI κ 46) := by rw [show (1 : Int32) = zI 1 from rfl, zI_add]; congr 1; omega
    simp only [ht ρ h1, Option.bind_some, c, if_false, i1]
    have hm := r_missed (b := 1) (s := i - kI κ 46) (x := x) (y := y) (u := u) (v := v) (most := 100) hN hκ hw hn h1 (by omega) (by omega) (by omega) (by omega) x0 x1 y0 y1 u0 u1 v0 v1 (by omega) (by omega)
    refine Ho_bind hm fun a ⟨f1, r, f2, f3⟩ => ?_
    have hle := missOf_le κ hw 1 (i - kI κ 46) x y u v
    have er : r = missOf κ 1 (i - kI κ 46) x y u v := by omega
    have hb := (mnS_le hf i.toNat).1
    have hst : mnS (fun i => missOf κ 1 ((i : Int) - kI κ 46) x y u v) (i + 1).toNat = min (mnS (fun i => missOf κ 1 ((i : Int) - kI κ 46) x y u v) i.toNat) r := by
      rw [show (i + 1).toNat = i.toNat + 1 by omega, mnS, er, show ((i.toNat : Nat) : Int) = i by omega]
    rw [f2]
    have c2 : (zI ls ≤ zI (r : Int)) = (ls ≤ r) := zI_le (by omega) (by omega) (by omega) (by omega)
    simp only [c2]
    by_cases q : ls ≤ (r : Int)
    · rw [if_pos q]
      refine hc (ls, a.2) ⟨by omega, f1, ?_⟩
      show ls = _
      rw [hst]; omega
    · rw [if_neg q]
      refine hc (r, a.2) ⟨by omega, f1, ?_⟩
      show (r : Int) = _
      rw [hst]; omega
theorem r_isRun {N : Nat} {τ0 τ : qMem} {κ : Nat → Int32} {x y u v : Int} (hN : 200000 ≤ N) (hκ : τ0.1 2 = κ) (hw : KW κ) (hn : newsOK τ0.1 κ) (h : RS τ0 κ τ) (x0 : 0 ≤ x) (x1 : x ≤ 31) (y0 : 0 ≤ y) (y1 : y ≤ 31) (u0 : -3 ≤ u) (u1 : u ≤ 3) (v0 : -3 ≤ v) (v1 : v ≤ 3) :
    Ho (fX12_isRun N (zI x) (zI y) (zI u) (zI v) τ) (fun a => RS τ0 κ a.2 ∧ a.1 = bI (runB κ x y u v)) := by
  have hap := hw.2.1.2.2.1
  have ht : ∀ ρ : qMem, RS τ0 κ ρ → fX12_term 2 ρ = some (zI (kI κ 46)) := fun ρ hρ => by rw [← RS_κ hρ hκ]; exact r_term (t := 2) (by omega) (by omega)
  unfold fX12_isRun
  have hm := r_missed (b := 0) (s := 0) (x := x) (y := y) (u := u) (v := v) (most := 0) hN hκ hw hn h (by omega) (by omega) (by omega) (by omega) x0 x1 y0 y1 u0 u1 v0 v1 (by omega) (by omega)
  refine Ho_bind hm fun a ⟨f1, r, f2, f3⟩ => ?_
  have hle := missOf_le κ hw 0 0 x y u v
  rw [f2]
  have c1 : (zI (r : Int) ≤ 0) = ((r : Int) ≤ 0) := zI_le0 (by omega) (by omega)
  simp only [c1]
  by_cases q : (r : Int) ≤ 0
  · rw [if_pos q, ht a.2 f1, Option.bind_some, zI_neg, show -kI κ 46 = 0 - kI κ 46 by omega]
    have hz : missOf κ 0 0 x y u v = 0 := by omega
    refine lp_for (S := qMem) (R := Int32 × qMem) (fun n i p => fX12_isRun_l25 N n (zI x) (zI y) (zI u) (zI v) (zI (i - kI κ 46)) p) (fun i p => 0 ≤ i ∧ RS τ0 κ p ∧ ¬ ∃ s : Int, -kI κ 46 ≤ s ∧ s < i - kI κ 46 ∧ missOf κ 1 s x y u v = 0) _ (2 * kI κ 46 + 1) ?_ ?_ N 0 a.2 (by omega) (by omega) ⟨by omega, f1, fun ⟨s, a1, a2, _⟩ => by omega⟩
    · intro n p ⟨_, h1, h2⟩
      show Ho (fX12_isRun_s25 N _ _ _ _ _ _ _) _
      unfold fX12_isRun_s25
      have c : (zI (kI κ 46) < zI (2 * kI κ 46 + 1 - kI κ 46)) = True := by rw [zI_lt (by omega) (by omega) (by omega) (by omega)]; exact eq_true (by omega)
      simp only [ht p h1, Option.bind_some, c, if_true]
      refine Ho_some ⟨h1, ?_⟩
      unfold runB
      rw [dcB_f]
      · rfl
      · rintro ⟨_, s, a1, a2, a3⟩
        exact h2 ⟨s, a1, by omega, a3⟩
    · intro n i p hi ⟨i0, h1, h2⟩ hc
      show Ho (fX12_isRun_s25 N _ _ _ _ _ _ _) _
      unfold fX12_isRun_s25
      have c : (zI (kI κ 46) < zI (i - kI κ 46)) = False := by rw [zI_lt (by omega) (by omega) (by omega) (by omega)]; exact eq_false (by omega)
      have i1 : zI (i - kI κ 46) + 1 = zI (i + 1 - kI κ 46) := by rw [show (1 : Int32) = zI 1 from rfl, zI_add]; congr 1; omega
      simp only [ht p h1, Option.bind_some, c, if_false, i1]
      have hm := r_missed (b := 1) (s := i - kI κ 46) (x := x) (y := y) (u := u) (v := v) (most := 0) hN hκ hw hn h1 (by omega) (by omega) (by omega) (by omega) x0 x1 y0 y1 u0 u1 v0 v1 (by omega) (by omega)
      refine Ho_bind hm fun b ⟨g1, r2, g2, g3⟩ => ?_
      have hle2 := missOf_le κ hw 1 (i - kI κ 46) x y u v
      rw [g2]
      have c2 : (zI (r2 : Int) = 0) = ((r2 : Int) = 0) := zI_0 (by omega) (by omega)
      simp only [c2]
      by_cases q2 : (r2 : Int) = 0
      · rw [if_pos q2]
        refine Ho_some ⟨g1, ?_⟩
        unfold runB
        rw [dcB_t ⟨hz, i - kI κ 46, by omega, by omega, by omega⟩]
        rfl
      · rw [if_neg q2]
        refine hc b.2 ⟨by omega, g1, ?_⟩
        rintro ⟨s, a1, a2, a3⟩
        by_cases qs : s = i - kI κ 46
        · subst qs; omega
        · exact h2 ⟨s, a1, by omega, a3⟩
  · rw [if_neg q]
    refine Ho_some ⟨f1, ?_⟩
    unfold runB
    rw [dcB_f]
    · rfl
    · rintro ⟨z, _⟩
      omega
theorem r_code {r : Int} (h0 : 0 ≤ r) (h1 : r < 50176) : fX12_eastOf (zI r) = some (zI (r / 1568)) ∧ fX12_northOf (zI r) = some (zI (r / 49 % 32)) ∧ fX12_eastBy (zI r) = some (zI (r / 7 % 7 - 3)) ∧ fX12_northBy (zI r) = some (zI (r % 7 - 3)) := by
  have d1 : zI r / 1568 = zI (r / 1568) := zI_divp (b := 1568) h0 (by omega) (by omega) (by omega)
  have d2 : zI r / 49 = zI (r / 49) := zI_divp (b := 49) h0 (by omega) (by omega) (by omega)
  have d3 : zI r / 7 = zI (r / 7) := zI_divp (b := 7) h0 (by omega) (by omega) (by omega)
  have e1 : irm (zI (r / 49)) 32 = zI (r / 49 % 32) := zI_rem (b := 32) (by omega) (by omega) (by omega) (by omega)
  have e2 : irm (zI (r / 7)) 7 = zI (r / 7 % 7) := zI_rem (b := 7) (by omega) (by omega) (by omega) (by omega)
  have e3 : irm (zI r) 7 = zI (r % 7) := zI_rem (b := 7) (by omega) (by omega) (by omega) (by omega)
  refine ⟨?_, ?_, ?_, ?_⟩
  · unfold fX12_eastOf; rw [d1]
  · unfold fX12_northOf; rw [d2, e1]
  · unfold fX12_eastBy; rw [d3, e2]; exact congrArg some (zI_sub _ 3)
  · unfold fX12_northBy; rw [e3]; exact congrArg some (zI_sub _ 3)
theorem fitR_int (κ : Nat → Int32) {r : Int} (h0 : 0 ≤ r) : fitR κ r.toNat = runB κ (r / 1568) (r / 49 % 32) (r / 7 % 7 - 3) (r % 7 - 3) := by
  unfold fitR
  congr 1 <;> omega
theorem missR_int (κ : Nat → Int32) {r : Int} (h0 : 0 ≤ r) : missR κ r.toNat = missBest κ (r / 1568) (r / 49 % 32) (r / 7 % 7 - 3) (r % 7 - 3) := by
  unfold missR
  congr 1 <;> omega
