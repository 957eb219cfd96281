/-! what the constructors leave, as the calls see it -/
def fuK (x : Int32) : Nat ⊕ Nat → Bool
  | .inl 0 => true
  | .inl 1 => true
  | .inl _ => !decide (x = 0)
  | .inr _ => !decide (x = 0)
def fuB (σ : qMem) (k : Nat) : qSh → Bool
  | .inl (ty, _, ts) => (match ty with
    | .object _ => (List.range ts.length).all fun j => !decide (gi σ k j = 0)
    | _ => true)
  | .inr (_, ks) => (List.range ks.length).all fun j => match ks[j]? with
    | some kd => fuK (gi σ k j) kd
    | none => true
def fuA (S : qWo) (σ : qMem) : Bool := (List.range S.1.length).all fun k => match S.1[k]? with
  | some e => fuB σ k e
  | none => true
theorem fuA_C : fuA wC iC = true := by decide +kernel
theorem fuA_M : fuA wM iM = true := by decide +kernel
theorem fuK_fV {ad : Nat → Nat} {σ : qMem} {k j : Nat} {kd : Nat ⊕ Nat} (h : fuK (gi σ k j) kd = true) : fW ad σ k j kd = fV ad σ k j kd := by
  rcases kd with x | t
  · rcases x with _ | _ | x
    · rfl
    · rfl
    · have n : ¬ gi σ k j = 0 := by
        have h' : (!decide (gi σ k j = 0)) = true := h
        simpa using h'
      show (if gi σ k j = 0 then Value.null else .ref (ad (gi σ k j).toNatClampNeg)) = .ref (ad (gi σ k j).toNatClampNeg)
      rw [if_neg n]
  · have n : ¬ gi σ k j = 0 := by
      have h' : (!decide (gi σ k j = 0)) = true := h
      simpa using h'
    show (if gi σ k j = 0 then Value.null else .ref (ad t)) = .ref (ad t)
    rw [if_neg n]
theorem dE_cE {ad : Nat → Nat} {dA : FieldType → ClassId} {σ : qMem} {k : Nat} {e : qSh} (h : fuB σ k e = true) : dE ad dA σ k e = cE ad dA σ k e := by
  rcases e with ⟨ty, n, ts⟩ | ⟨ci, ks⟩
  · show Sum.inl (dA ty, n, cB ad σ k ts ty) = Sum.inl (dA ty, n, cA ad σ k ts ty)
    have : cB ad σ k ts ty = cA ad σ k ts ty := by
      cases ty with
      | object C =>
        have h' : ((List.range ts.length).all fun j => !decide (gi σ k j = 0)) = true := h
        show Sum.inr (Sum.inr (Sum.inr (Sum.inr (fun j => if gi σ k j = 0 then none else (ts[j]?).map ad)))) = Sum.inr (Sum.inr (Sum.inr (Sum.inr (fun j => (ts[j]?).map ad))))
        have e : (fun j => if gi σ k j = 0 then none else (ts[j]?).map ad) = (fun j => (ts[j]?).map ad) := by
          funext j
          by_cases q : j < ts.length
          · have z := List.all_eq_true.mp h' j (List.mem_range.mpr q)
            have n0 : ¬ gi σ k j = 0 := by simpa using z
            rw [if_neg n0]
          · rw [List.getElem?_eq_none (by omega)]
            split <;> rfl
        rw [e]
      | _ => rfl
    rw [this]
  · show Sum.inr (ci, ks.mapIdx (fW ad σ k)) = Sum.inr (ci, ks.mapIdx (fV ad σ k))
    have h' : ((List.range ks.length).all fun j => match ks[j]? with
      | some kd => fuK (gi σ k j) kd
      | none => true) = true := h
    have : ks.mapIdx (fW ad σ k) = ks.mapIdx (fV ad σ k) := by
      apply List.ext_getElem?
      intro j
      rw [List.getElem?_mapIdx, List.getElem?_mapIdx]
      cases q : ks[j]? with
      | none => rfl
      | some kd =>
        have z := List.all_eq_true.mp h' j (List.mem_range.mpr (List.getElem?_eq_some_iff.mp q).1)
        rw [q] at z
        exact congrArg some (fuK_fV z)
    rw [this]
/-- when all is made, what is being made is what is -/
theorem dW_full {S : qWo} {ad : Nat → Nat} {dA : FieldType → ClassId} {σ : qMem} (h : fuA S σ = true) : dW S ad dA σ S.1.length = cW S ad dA σ := by
  apply List.ext_getElem?
  intro k
  rw [dW_get]
  unfold cW
  rw [List.getElem?_mapIdx]
  by_cases q : k < S.1.length
  · rw [if_pos q]
    cases e : S.1[k]? with
    | none => rfl
    | some x =>
      have z := List.all_eq_true.mp h k (List.mem_range.mpr q)
      rw [e] at z
      show some (ad k, dE ad dA σ k x) = some (ad k, cE ad dA σ k x)
      rw [dE_cE z]
  · rw [if_neg q, List.getElem?_eq_none (by omega)]
    rfl
