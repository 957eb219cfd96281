/-! the reference's: which one is meant -/
theorem r_newOf {N : Nat} {τ : qMem} {κ : Nat → Int32} {b : Nat} {bell T : Int} (hN : 200000 ≤ N) (hn : newsOK τ.1 κ) (kw : KW κ) (hb : b < 2) (l0 : 0 ≤ bell) (l1 : bell ≤ 23) (t0 : -2147483648 ≤ T) (t1 : T < 2147483648) :
    Ho (fX12_newOf N (zI b) (zI bell) (zI T) τ) (fun v => (0 ≤ T ∧ ∃ (i : Nat) (it : Bool × Nat), v = zI i ∧ (newsL κ)[i]? = some it ∧ (crossL κ b bell)[T.toNat]? = some it) ∨ (v = -1 ∧ (T < 0 ∨ ((crossL κ b bell).length : Int) ≤ T))) := by
  have hl2 := newsL_len kw.2.2.1 kw.2.2.2.1
  rw [crossL_eq]
  generalize hp : (fun it : Bool × Nat => (!it.1 && decide (itF κ it 1 = bell)) && decide (itF κ it 0 = (b : Int))) = p
  have hpa : ∀ it, p it = ((!it.1 && decide (itF κ it 1 = bell)) && decide (itF κ it 0 = (b : Int))) := fun it => by rw [← hp]
  have g10 : gi τ 0 10 = zI (newsL κ).length := hn.1
  unfold fX12_newOf
  have cle : ∀ i : Nat, ((newsL κ).take i).countP p ≤ 36 := fun i => Nat.le_trans List.countP_le_length (by rw [List.length_take]; omega)
  have hst := lp_for (S := Unit) (R := Int32) (fun n i _ => fX12_newOf_l6 N τ n (zI (b : Int)) (zI bell) (zI T) (zI ((((newsL κ).take i.toNat).countP p : Nat) : Int)) (zI i)) (fun i _ => 0 ≤ i ∧ (T < 0 ∨ ((((newsL κ).take i.toNat).countP p : Nat) : Int) ≤ T)) (fun v => (0 ≤ T ∧ ∃ (i : Nat) (it : Bool × Nat), v = zI i ∧ (newsL κ)[i]? = some it ∧ ((newsL κ).filter p)[T.toNat]? = some it) ∨ (v = -1 ∧ (T < 0 ∨ (((newsL κ).filter p).length : Int) ≤ T))) (newsL κ).length ?_ ?_ N 0 () (by omega) (by omega) ⟨by omega, by show T < 0 ∨ (0 : Int) ≤ T; omega⟩
  · exact hst
  · intro n _ ⟨_, h1⟩
    show Ho (fX12_newOf_s6 N _ _ _ _ _ _ _) _
    unfold fX12_newOf_s6
    have cn : (zI ((newsL κ).length : Int) ≤ zI ((newsL κ).length : Int)) = True := by rw [zI_le (by omega) (by omega) (by omega) (by omega)]; exact eq_true (by omega)
    simp only [g10, cn, if_true]
    refine Ho_some (Or.inr ⟨rfl, ?_⟩)
    rw [show ((newsL κ).length : Int).toNat = (newsL κ).length by omega, List.take_length] at h1
    rw [← List.countP_eq_length_filter]
    exact h1
  · intro n i _ hi ⟨i0, h1⟩ hc
    show Ho (fX12_newOf_s6 N _ _ _ _ _ _ _) _
    unfold fX12_newOf_s6 fX12_newOf_b73
    have cn : (zI ((newsL κ).length : Int) ≤ zI i) = False := by rw [zI_le (by omega) (by omega) (by omega) (by omega)]; exact eq_false (by omega)
    have hil : i.toNat < (newsL κ).length := by omega
    obtain ⟨it, hit⟩ : ∃ it, (newsL κ)[i.toNat]? = some it := ⟨_, List.getElem?_eq_getElem hil⟩
    obtain ⟨a0, a1, a2, _⟩ := hn.2 i.toNat it hit
    have rr := it_rng kw.2.2.1 kw.2.2.2.1 (newsL_mem (List.mem_of_getElem? hit)).1
    have ad : 4 * zI i = zI (4 * i) := zI_mul 4 i
    have e1 : zI (4 * i) + 1 = zI (4 * i + 1) := zI_add _ 1
    have e2 : zI (4 * i) + 2 = zI (4 * i + 2) := zI_add _ 2
    have k0 : (ck (zI (4 * i)) 144 = true) = True := zI_ckT (by omega) (by omega) (by omega)
    have k1 : (ck (zI (4 * i + 1)) 144 = true) = True := zI_ckT (by omega) (by omega) (by omega)
    have k2 : (ck (zI (4 * i + 2)) 144 = true) = True := zI_ckT (by omega) (by omega) (by omega)
    have z0 : (zI (4 * i)).toNatClampNeg = 4 * i.toNat := by rw [zI_clamp (by omega) (by omega)]; omega
    have z1 : (zI (4 * i + 1)).toNatClampNeg = 4 * i.toNat + 1 := by rw [zI_clamp (by omega) (by omega)]; omega
    have z2 : (zI (4 * i + 2)).toNatClampNeg = 4 * i.toNat + 2 := by rw [zI_clamp (by omega) (by omega)]; omega
    have g0 : gi τ 6 (4 * i.toNat) = _ := a0
    have g1 : gi τ 6 (4 * i.toNat + 1) = _ := a1
    have g2 : gi τ 6 (4 * i.toNat + 2) = _ := a2
    have c0 : (zI (itF κ it 0) = zI (b : Int)) = (itF κ it 0 = (b : Int)) := zI_eq (by omega) (by omega) (by omega) (by omega)
    have c1 : (zI (itF κ it 1) = zI bell) = (itF κ it 1 = bell) := zI_eq (by omega) (by omega) (by omega) (by omega)
    have cl := cle i.toNat
    have c3 : (zI ((((newsL κ).take i.toNat).countP p : Nat) : Int) = zI T) = (((((newsL κ).take i.toNat).countP p : Nat) : Int) = T) := zI_eq (by omega) (by omega) (by omega) (by omega)
    have i1 : zI i + 1 = zI (i + 1) := zI_add i 1
    have s1 : zI ((((newsL κ).take i.toNat).countP p : Nat) : Int) + 1 = zI ((((newsL κ).take i.toNat).countP p : Nat) + 1 : Int) := zI_add _ 1
    simp only [g10, cn, if_false, ad, e1, e2, k0, k1, k2, if_true, z0, z1, z2, g0, g1, g2, c0, c1, c3, i1, s1, bI_1]
    have nx := hc ()
    rw [show (i + 1).toNat = i.toNat + 1 by omega, countP_take_succ hit] at nx
    have skip : p it = false → Ho (fX12_newOf_l6 N τ n (zI (b : Int)) (zI bell) (zI T) (zI ((((newsL κ).take i.toNat).countP p : Nat) : Int)) (zI (i + 1))) (fun v => (0 ≤ T ∧ ∃ (i : Nat) (it : Bool × Nat), v = zI i ∧ (newsL κ)[i]? = some it ∧ ((newsL κ).filter p)[T.toNat]? = some it) ∨ (v = -1 ∧ (T < 0 ∨ (((newsL κ).filter p).length : Int) ≤ T))) := by
      intro hf
      rw [hf, if_neg (c := false = true) (by decide)] at nx
      exact nx ⟨by omega, h1⟩
    by_cases q0 : itF κ it 0 = (b : Int)
    · rw [if_pos q0]
      by_cases q1 : itF κ it 1 = bell
      · rw [if_pos q1]
        cases e : it.1
        · rw [if_neg (by decide)]
          have pt : p it = true := by rw [hpa, e, decide_eq_true q0, decide_eq_true q1]; rfl
          rw [pt, if_pos rfl] at nx
          by_cases q2 : ((((newsL κ).take i.toNat).countP p : Nat) : Int) = T
          · rw [if_pos q2]
            refine Ho_some (Or.inl ⟨by omega, i.toNat, it, by congr 1; omega, hit, ?_⟩)
            rw [show T.toNat = ((newsL κ).take i.toNat).countP p by omega]
            exact filt_at hit pt
          · rw [if_neg q2]
            exact nx ⟨by omega, by omega⟩
        · rw [if_pos rfl]
          exact skip (by rw [hpa, e]; rfl)
      · rw [if_neg q1]
        exact skip (by rw [hpa, decide_eq_false q1]; simp)
    · rw [if_neg q0]
      exact skip (by rw [hpa, decide_eq_false q0]; simp)
