/-! the start -/
def ini0 : qMem := (fun _ _ => 0, fun _ _ => 0)
def iC : qMem := (fnX11_init ini0).getD ini0
def iM : qMem := (fnX12_init ini0).getD ini0
theorem iC_some : fnX11_init ini0 = some iC := by
  have h : (fnX11_init ini0).isSome = true := by decide +kernel
  unfold iC
  cases e : fnX11_init ini0 with
  | none => rw [e] at h; cases h
  | some x => rfl
theorem iM_some : fnX12_init ini0 = some iM := by
  have h : (fnX12_init ini0).isSome = true := by decide +kernel
  unfold iM
  cases e : fnX12_init ini0 with
  | none => rw [e] at h; cases h
  | some x => rfl
theorem iC_bs : bookS iC.1 1 ∧ bookS iC.1 89 ∧ bookS iC.1 130 ∧ rowS iC.1 79 4 12 := by
  unfold bookS rowS
  and_intros <;> decide +kernel
theorem iM_n : kI (iM.1 2) 300 = 0 ∧ kI (iM.1 2) 301 = 0 ∧ kI (iM.1 2) 302 = 0 ∧ kI (iM.1 2) 303 = 0 ∧ kI (iM.1 2) 304 = 0 ∧ kI (iM.1 2) 305 = 0 ∧ kI (iM.1 2) 306 = 0 ∧ kI (iM.1 2) 307 = 0 ∧ kI (iM.1 2) 308 = 0 ∧ kI (iM.1 2) 309 = 0 := by
  and_intros <;> decide +kernel
theorem iM_KT : KT (iM.1 2) := by
  unfold KT
  and_intros <;> decide +kernel
theorem iM_KB : KB (iM.1 2) := by
  have l0 : legN (iM.1 2) 0 = 0 := by decide +kernel
  have l1 : legN (iM.1 2) 1 = 0 := by decide +kernel
  intro b b0 b1
  have : b = 0 ∨ b = 1 := by omega
  rcases this with rfl | rfl
  · refine ⟨by decide +kernel, by decide +kernel, by decide +kernel, by decide +kernel, fun l h1 h2 => ?_, fun l h1 h2 => ?_⟩
    · rw [l0] at h2; omega
    · rw [l0] at h2; omega
  · refine ⟨by decide +kernel, by decide +kernel, by decide +kernel, by decide +kernel, fun l h1 h2 => ?_, fun l h1 h2 => ?_⟩
    · rw [l1] at h2; omega
    · rw [l1] at h2; omega
theorem iM_KW : KW (iM.1 2) := by
  obtain ⟨a0, a1, a2, a3, a4, a5, a6, a7, a8, a9⟩ := iM_n
  refine ⟨iM_KB, iM_KT, ⟨by omega, fun h h1 h2 => by omega⟩, ⟨by omega, fun h h1 h2 => by omega⟩, ⟨by omega, fun h h1 h2 => by omega⟩, ⟨by omega, fun h h1 h2 => by omega⟩, ⟨by omega, fun h h1 h2 => by omega⟩, ⟨by omega, fun h h1 h2 => by omega⟩, ⟨by omega, fun h h1 h2 => by omega⟩, ⟨by omega, fun h h1 h2 => by omega⟩⟩
theorem iC_row {k len base cnt : Nat} (h : (decide (iC.1 k 3 = iM.1 2 cnt) && (List.range len).all fun j => decide (iC.1 (k + 1) j = iM.1 2 (base + j))) = true) : rowE iC.1 k len (iM.1 2) base cnt := by
  obtain ⟨h1, h2⟩ := Bool.and_eq_true_iff.mp h
  exact ⟨of_decide_eq_true h1, fun j hj => of_decide_eq_true (List.all_eq_true.mp h2 j (List.mem_range.mpr hj))⟩
theorem iC_boat {o b : Nat} (h0 : decide (iC.1 o 4 = iM.1 2 (22 * b + 2)) = true) (h1 : (decide (iC.1 (o + 1) 3 = iM.1 2 (22 * b + 3)) && (List.range 18).all fun j => decide (iC.1 (o + 1 + 1) j = iM.1 2 (22 * b + 4 + j))) = true) (h2 : ((List.range 24).all fun j => decide (iC.1 (o + 3) j = zI (pos (iM.1 2) b j 0)) && decide (iC.1 (o + 4) j = zI (pos (iM.1 2) b j 1)) && decide (iC.1 (o + 5) j = zI (spd (iM.1 2) b j))) = true) : boatT iC.1 o (iM.1 2) b := by
  refine ⟨of_decide_eq_true h0, iC_row h1, fun j hj => ?_⟩
  have := List.all_eq_true.mp h2 j (List.mem_range.mpr hj)
  obtain ⟨x, y3⟩ := Bool.and_eq_true_iff.mp this
  obtain ⟨y1, y2⟩ := Bool.and_eq_true_iff.mp x
  exact ⟨of_decide_eq_true y1, of_decide_eq_true y2, of_decide_eq_true y3⟩
theorem iC_bk : bookK iC.1 1 (iM.1 2) := by
  have n := iM_n
  refine ⟨iC_boat (b := 0) (by decide +kernel) (by decide +kernel) (by decide +kernel), iC_boat (b := 1) (by decide +kernel) (by decide +kernel) (by decide +kernel), ⟨by decide +kernel, fun j hj => ?_⟩, fun j hj => ?_, iC_row (by decide +kernel), iC_row (by decide +kernel), ⟨by decide +kernel, fun w hw => by omega⟩, iC_row (by decide +kernel), iC_row (by decide +kernel), iC_row (by decide +kernel), iC_row (by decide +kernel), iC_row (by decide +kernel), by decide +kernel⟩
  · have : ∀ j, j < 30 → iC.1 (1 + 15) j = iM.1 2 (50 + j) := by decide +kernel
    exact this j hj
  · have : ∀ j, j < 6 → iC.1 (1 + 17) j = iM.1 2 (44 + j) := by decide +kernel
    exact this j hj
theorem iC_law : LWd iC.1 1 (iM.1 2) := by
  have n6 : kI (iM.1 2) 306 = 0 := iM_n.2.2.2.2.2.2.1
  refine ⟨[], by decide +kernel, by decide, by decide, fun k x h => ?_, ⟨by decide +kernel, fun k x h => ?_⟩, ⟨by omega, by omega⟩, fun i => ?_, Or.inl ⟨rfl, n6⟩⟩
  · have h' : ([] : List (Int × Int))[k]? = some x := h
    simp at h'
  · have h' : ([] : List (Int × Nat × Nat × Nat))[k]? = some x := h
    simp at h'
  · unfold tvK
    rw [n6, if_neg (by omega)]
    exact Int.le_refl 0
theorem inv0 : Inv LWd 0 iC iM := by
  have z2 : gi iM 0 2 = 0 := by decide +kernel
  have z7 : gi iM 0 7 = -1 := by decide +kernel
  have z13 : gi iM 0 13 = -1 := by decide +kernel
  have z15 : gi iM 0 15 = -1 := by decide +kernel
  have ne : ¬ (-1 : Int32) = 0 := by decide
  refine ⟨by rw [z2]; decide, iC_bs.1, iC_bs.2.1, iC_bs.2.2.1, iC_bs.2.2.2, iC_bk, iM_KW, iC_law, fun k hk => ?_, ⟨by decide +kernel, by decide +kernel, by decide +kernel, fun j hj => ?_⟩, by decide +kernel, by decide +kernel, ⟨by unfold rowS; decide +kernel, by unfold rowS; decide +kernel, fun z => ?_, fun z => ?_, fun z => ?_, fun z => ?_⟩, ?_, fun j x hx => ?_⟩
  · have h1 : ∀ k, k < 2 → gi iC 43 k = gi iM 4 k ∧ gi iC 43 k = 0 := by decide +kernel
    exact ⟨(h1 k hk).1, fun z => absurd (h1 k hk).2 z⟩
  · have : (gi iM 0 28).toInt = 0 := by decide +kernel
    omega
  · exact absurd (show iC.1 44 15 = 0 by decide +kernel) z
  · exact absurd (show iC.1 44 16 = 0 by decide +kernel) z
  · exact absurd (show iC.1 44 17 = 0 by decide +kernel) z
  · exact absurd (show iC.1 68 8 = 0 by decide +kernel) z
  · have z2' : iM.1 0 2 = 0 := z2
    have z7' : iM.1 0 7 = -1 := z7
    have z13' : iM.1 0 13 = -1 := z13
    have z15' : iM.1 0 15 = -1 := z15
    refine ⟨?_, ?_, ?_, fun z => ?_, fun z => ?_, fun z => ?_⟩
    · rw [z2', z7']; decide
    · rw [z2', z13']; decide
    · rw [z2', z15']; decide
    · rw [z2', z7'] at z; exact absurd z ne
    · rw [z2', z13'] at z; exact absurd z ne
    · rw [z2', z15'] at z; exact absurd z ne
  · have h1 : ∀ j, j < 57 → gi iM 17 j = zI (wordsL.getD j 0) := by decide +kernel
    have hl := (List.getElem?_eq_some_iff.mp hx).1
    have h57 : wordsL.length = 57 := rfl
    rw [h1 j (by omega), List.getD_eq_getElem?_getD, hx]; rfl
