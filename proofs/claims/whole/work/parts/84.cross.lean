/-! the soundings that cross: which one is meant -/
theorem filt_at {α : Type} {p : α → Bool} {a : α} : ∀ {L : List α} {i : Nat}, L[i]? = some a → p a = true → (L.filter p)[(L.take i).countP p]? = some a
  | [], i, h, _ => by simp at h
  | b :: L, 0, h, hp => by
    simp at h
    subst h
    simp [hp]
  | b :: L, i + 1, h, hp => by
    have h' : L[i]? = some a := by simpa using h
    have ih := filt_at h' hp
    cases q : p b
    · simp [List.filter_cons, q]; exact ih
    · simp [List.filter_cons, q]; exact ih
noncomputable def crossL (κ : Nat → Int32) (b bell : Int) : List (Bool × Nat) := (freshL κ b (newsL κ)).filter (fun it => !it.1 && decide (itF κ it 1 = bell))
theorem crossL_eq (κ : Nat → Int32) (b bell : Int) : crossL κ b bell = (newsL κ).filter (fun it => (!it.1 && decide (itF κ it 1 = bell)) && decide (itF κ it 0 = b)) := by
  unfold crossL freshL
  rw [List.filter_filter]
theorem e_freshAt0 {σ : qMem} {κ : Nat → Int32} {b i : Nat} {it : Bool × Nat} (kw : KW κ) (fr : freshAt σ.1 κ (newsL κ)) (r1 : rowS σ.1 46 3 36) (r2 : rowS σ.1 48 3 36) (hb : b < 2) (hit : (freshL κ b (newsL κ))[i]? = some it) : fX8_at (46 + 2 * b) 108 (zI i) (zI 0) σ = some (bI it.1) ∧ fX8_at (46 + 2 * b) 108 (zI i) (zI 1) σ = some (zI (itF κ it 1)) := by
  have hlen := freshL_len κ b (newsL κ)
  have hl2 := newsL_len kw.2.2.1 kw.2.2.2.1
  have hi := (List.getElem?_eq_some_iff.mp hit).1
  obtain ⟨f1, f2⟩ := fr b hb
  obtain ⟨g0, g1, g2⟩ := f2 i it hit
  have hw : gi σ (46 + 2 * b) 0 = zI 3 := by
    rcases (by omega : b = 0 ∨ b = 1) with rfl | rfl
    · exact r1.1
    · exact r2.1
  have rd : ∀ c : Int, 0 ≤ c → c ≤ 2 → fX8_at (46 + 2 * b) 108 (zI i) (zI c) σ = some (gi σ (47 + 2 * b) (3 * i + c.toNat)) := by
    intro c c0 c1
    rw [e_at (w := 3) (s := (freshL κ b (newsL κ)).length) hw f1 (by omega) (by omega) c0 (by omega) (by omega) (by omega) (by omega), show ((i : Int) * 3 + c).toNat = 3 * i + c.toNat by omega, show 46 + 2 * b + 1 = 47 + 2 * b by omega]
  rw [rd 0 (by omega) (by omega), rd 1 (by omega) (by omega)]
  exact ⟨congrArg some g0, congrArg some g1⟩
theorem e_freshHeard {N : Nat} {σ : qMem} {κ : Nat → Int32} {b : Nat} {bell T : Int} (hN : 200000 ≤ N) (kw : KW κ) (fr : freshAt σ.1 κ (newsL κ)) (r1 : rowS σ.1 46 3 36) (r2 : rowS σ.1 48 3 36) (hb : b < 2) (l0 : 0 ≤ bell) (l1 : bell ≤ 23) (t0 : -2147483648 ≤ T) (t1 : T < 2147483648) :
    Ho (fX3_freshHeard N (zI b) (zI bell) (zI T) σ) (fun v => (0 ≤ T ∧ ∃ (i : Nat) (it : Bool × Nat), v = zI i ∧ (freshL κ b (newsL κ))[i]? = some it ∧ (crossL κ b bell)[T.toNat]? = some it) ∨ (v = -1 ∧ (T < 0 ∨ ((crossL κ b bell).length : Int) ≤ T))) := by
  have hlen := freshL_len κ b (newsL κ)
  have hl2 := newsL_len kw.2.2.1 kw.2.2.2.1
  have hsz := (fr b hb).1
  unfold fX3_freshHeard
  have cb : (ck (zI (b : Int)) 2 = true) = True := zI_ckT (by omega) (by omega) (by omega)
  have zb : (zI (b : Int)).toNatClampNeg = b := by rw [zI_clamp (by omega) (by omega)]; omega
  have g3 : gi σ (46 + 2 * b) 3 = zI (freshL κ b (newsL κ)).length := hsz
  have cn0 : (zI T < 0) = (T < 0) := by rw [show (0 : Int32) = zI 0 from rfl, zI_lt (by omega) (by omega) (by omega) (by omega)]
  by_cases q0 : T < 0
  · obtain ⟨n, rfl⟩ : ∃ n, N = n + 1 := ⟨N - 1, by omega⟩
    show Ho (fX3_freshHeard_s6 _ _ _ _ _ _ _ _) _
    unfold fX3_freshHeard_s6
    simp only [cn0]
    rw [if_pos q0]
    exact Ho_some (Or.inr ⟨rfl, Or.inl q0⟩)
  · have hst := lp_for (S := Unit) (R := Int32) (fun n i _ => fX3_freshHeard_l6 N σ n (zI (b : Int)) (zI bell) (zI T) (zI (T - (((freshL κ b (newsL κ)).take i.toNat).countP (fun it => !it.1 && decide (itF κ it 1 = bell)) : Nat))) (zI i)) (fun i _ => 0 ≤ i ∧ ((((freshL κ b (newsL κ)).take i.toNat).countP (fun it => !it.1 && decide (itF κ it 1 = bell)) : Nat) : Int) ≤ T) (fun v => (0 ≤ T ∧ ∃ (i : Nat) (it : Bool × Nat), v = zI i ∧ (freshL κ b (newsL κ))[i]? = some it ∧ (crossL κ b bell)[T.toNat]? = some it) ∨ (v = -1 ∧ (T < 0 ∨ ((crossL κ b bell).length : Int) ≤ T))) (freshL κ b (newsL κ)).length ?_ ?_ N 0 () (by omega) (by omega) ⟨by omega, by show (0 : Int) ≤ T; omega⟩
    · have e : zI (T - (((freshL κ b (newsL κ)).take (0 : Int).toNat).countP (fun it => !it.1 && decide (itF κ it 1 = bell)) : Nat)) = zI T := congrArg zI (Int.sub_zero T)
      simp only [e] at hst
      exact hst
    · intro n _ ⟨_, h1⟩
      show Ho (fX3_freshHeard_s6 N _ _ _ _ _ _ _) _
      unfold fX3_freshHeard_s6
      have cn : (zI ((freshL κ b (newsL κ)).length : Int) ≤ zI ((freshL κ b (newsL κ)).length : Int)) = True := by rw [zI_le (by omega) (by omega) (by omega) (by omega)]; exact eq_true (by omega)
      simp only [cn0, cb, if_true, zb, g3, cn]
      rw [if_neg q0]
      refine Ho_some (Or.inr ⟨rfl, Or.inr ?_⟩)
      rw [show ((freshL κ b (newsL κ)).length : Int).toNat = (freshL κ b (newsL κ)).length by omega, List.take_length] at h1
      unfold crossL
      rw [← List.countP_eq_length_filter]
      exact h1
    · intro n i _ hi ⟨i0, h1⟩ hc
      show Ho (fX3_freshHeard_s6 N _ _ _ _ _ _ _) _
      unfold fX3_freshHeard_s6 fX3_freshHeard_b66
      have cn : (zI ((freshL κ b (newsL κ)).length : Int) ≤ zI i) = False := by rw [zI_le (by omega) (by omega) (by omega) (by omega)]; exact eq_false (by omega)
      have hil : i.toNat < (freshL κ b (newsL κ)).length := by omega
      obtain ⟨it, hit⟩ : ∃ it, (freshL κ b (newsL κ))[i.toNat]? = some it := ⟨_, List.getElem?_eq_getElem hil⟩
      obtain ⟨a0, a1⟩ := e_freshAt0 kw fr r1 r2 hb hit
      rw [show ((i.toNat : Nat) : Int) = i by omega] at a0 a1
      have a0' : fX8_at (46 + 2 * b) 108 (zI i) 0 σ = _ := a0
      have a1' : fX8_at (46 + 2 * b) 108 (zI i) 1 σ = _ := a1
      have rr := it_rng kw.2.2.1 kw.2.2.2.1 (fresh_mem hit).1
      have ce : (zI (itF κ it 1) = zI bell) = (itF κ it 1 = bell) := zI_eq (by omega) (by omega) (by omega) (by omega)
      have i1 : zI i + 1 = zI (i + 1) := zI_add i 1
      have cz : (zI (T - (((freshL κ b (newsL κ)).take i.toNat).countP (fun it => !it.1 && decide (itF κ it 1 = bell)) : Nat)) = 0) = (T - (((freshL κ b (newsL κ)).take i.toNat).countP (fun it => !it.1 && decide (itF κ it 1 = bell)) : Nat) = 0) := by rw [show (0 : Int32) = zI 0 from rfl, zI_eq (by omega) (by omega) (by omega) (by omega)]
      have s1 : zI (T - (((freshL κ b (newsL κ)).take i.toNat).countP (fun it => !it.1 && decide (itF κ it 1 = bell)) : Nat)) + (-1) = zI (T - (((freshL κ b (newsL κ)).take i.toNat).countP (fun it => !it.1 && decide (itF κ it 1 = bell)) : Nat) + (-1)) := by rw [show (-1 : Int32) = zI (-1) from rfl, zI_add]
      simp only [cn0, cb, if_true, zb, g3, cn, if_false, a0', a1', Option.bind_some, if_bI, ce, i1, cz, s1]
      rw [if_neg q0]
      have nx := hc ()
      rw [show (i + 1).toNat = i.toNat + 1 by omega, countP_take_succ hit] at nx
      cases e : it.1
      · rw [if_neg (by decide)]
        by_cases q1 : itF κ it 1 = bell
        · rw [if_pos q1]
          rw [e, decide_eq_true q1, if_pos (by rfl)] at nx
          by_cases q2 : T - (((freshL κ b (newsL κ)).take i.toNat).countP (fun it => !it.1 && decide (itF κ it 1 = bell)) : Nat) = 0
          · rw [if_pos q2]
            refine Ho_some (Or.inl ⟨by omega, i.toNat, it, by congr 1; omega, hit, ?_⟩)
            have := filt_at (p := fun it => !it.1 && decide (itF κ it 1 = bell)) hit (by rw [e, decide_eq_true q1]; rfl)
            unfold crossL
            rw [show T.toNat = ((freshL κ b (newsL κ)).take i.toNat).countP (fun it => !it.1 && decide (itF κ it 1 = bell)) by omega]
            exact this
          · rw [if_neg q2]
            have := nx ⟨by omega, by omega⟩
            rw [show T - ((((freshL κ b (newsL κ)).take i.toNat).countP (fun it => !it.1 && decide (itF κ it 1 = bell)) + 1 : Nat) : Int) = T - (((freshL κ b (newsL κ)).take i.toNat).countP (fun it => !it.1 && decide (itF κ it 1 = bell)) : Nat) + (-1) by omega] at this
            exact this
        · rw [if_neg q1]
          rw [e, decide_eq_false q1, if_neg (by decide)] at nx
          exact nx ⟨by omega, h1⟩
      · rw [if_pos rfl]
        rw [e, if_neg (by simp)] at nx
        exact nx ⟨by omega, h1⟩
