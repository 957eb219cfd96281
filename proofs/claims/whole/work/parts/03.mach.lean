/-! memory by cells and slots; the world that it stands for; a judgement on code with abstract frames -/
abbrev qMem : Type := (Nat → Nat → Int32) × (Nat → Nat → Int64)
abbrev qSh : Type := (FieldType × Nat × List Nat) ⊕ (Nat × List (Nat ⊕ Nat))
abbrev qWo : Type := List qSh × Bool
def gi (σ : qMem) (k j : Nat) : Int32 := σ.1 k j
def gl (σ : qMem) (k j : Nat) : Int64 := σ.2 k j
/-- a whole row of ints -/
def sr (σ : qMem) (k : Nat) (f : Nat → Int32) : qMem := (fun k' => if k' = k then f else σ.1 k', σ.2)
def slr (σ : qMem) (k : Nat) (f : Nat → Int64) : qMem := (σ.1, fun k' => if k' = k then f else σ.2 k')
def si (σ : qMem) (k j : Nat) (v : Int32) : qMem := sr σ k (upd (σ.1 k) j v)
def sl (σ : qMem) (k j : Nat) (v : Int64) : qMem := slr σ k (vp_updL (σ.2 k) j v)
def ck (i : Int32) (n : Nat) : Bool := decide (¬ (i < 0 ∨ n ≤ i.toNatClampNeg))
theorem ck_in {i : Int32} {n : Nat} (h : ck i n = true) : vp_in i n := by simpa [ck, vp_in] using h
def cV (ad : Nat → Nat) : Value → Value
  | .ref k => .ref (ad k)
  | v => v
def cL (ad : Nat → Nat) (L : List (Nat × Value)) : List (Nat × Value) := L.map (fun q => (q.1, cV ad q.2))
def fV (ad : Nat → Nat) (σ : qMem) (k j : Nat) : Nat ⊕ Nat → Value
  | .inl 0 => .int (gi σ k j)
  | .inl 1 => .long (gl σ k j)
  | .inl _ => .ref (ad (gi σ k j).toNatClampNeg)
  | .inr t => .ref (ad t)
def cA (ad : Nat → Nat) (σ : qMem) (k : Nat) (ts : List Nat) (ty : FieldType) : (Nat → Int32) ⊕ (Nat → Int64) ⊕ (Nat → UInt32) ⊕ (Nat → UInt64) ⊕ (Nat → Option Nat) := match ty with
  | .long => .inr (.inl (σ.2 k))
  | .object _ => .inr (.inr (.inr (.inr (fun j => (ts[j]?).map ad))))
  | _ => .inl (σ.1 k)
def cE (ad : Nat → Nat) (dA : FieldType → ClassId) (σ : qMem) (k : Nat) : qSh → va_E
  | .inl (ty, n, ts) => .inl (dA ty, n, cA ad σ k ts ty)
  | .inr (ci, ks) => .inr (ci, ks.mapIdx (fV ad σ k))
def cW (S : qWo) (ad : Nat → Nat) (dA : FieldType → ClassId) (σ : qMem) : va_W := S.1.mapIdx (fun k e => (ad k, cE ad dA σ k e))
def Aw (S : qWo) (ad : Nat → Nat) : Nat → Prop := fun q => ∃ k, k < S.1.length ∧ q = ad k
def qInj (S : qWo) (ad : Nat → Nat) : Prop := ∀ i j, i < S.1.length → j < S.1.length → ad i = ad j → i = j
def qtys (dA : FieldType → ClassId) : List (ClassId × FieldType) := [(dA .int, .int), (dA .long, .long), (dA .boolean, .boolean), (dA .byte, .byte), (dA (.object RX1), .object RX1), (dA (.object RX2), .object RX2), (dA (.object RX7), .object RX7), (dA (.object RX8), .object RX8)]
theorem cW_at {S : qWo} {ad : Nat → Nat} {dA : FieldType → ClassId} {σ : qMem} {k : Nat} {e : qSh} (h : S.1[k]? = some e) : (cW S ad dA σ)[k]? = some (ad k, cE ad dA σ k e) := by
  unfold cW
  rw [List.getElem?_mapIdx, h]
  rfl
theorem cW_inv {S : qWo} {ad : Nat → Nat} {dA : FieldType → ClassId} {σ : qMem} {k : Nat} {q : Nat × va_E} (h : (cW S ad dA σ)[k]? = some q) : ∃ e, S.1[k]? = some e ∧ q = (ad k, cE ad dA σ k e) := by
  unfold cW at h
  rw [List.getElem?_mapIdx] at h
  cases h2 : S.1[k]? with
  | none => rw [h2] at h; cases h
  | some e => rw [h2] at h; exact ⟨e, rfl, (Option.some.inj h).symm⟩
theorem cW_D {S : qWo} {ad : Nat → Nat} {dA : FieldType → ClassId} {σ : qMem} (hi : qInj S ad) : va_D (Aw S ad) (cW S ad dA σ) := by
  refine ⟨fun i j p q h1 h2 h3 => ?_, fun k q h => ?_⟩
  · obtain ⟨e1, a1, rfl⟩ := cW_inv h1
    obtain ⟨e2, a2, rfl⟩ := cW_inv h2
    exact hi i j (List.getElem?_eq_some_iff.mp a1).1 (List.getElem?_eq_some_iff.mp a2).1 h3
  · obtain ⟨e1, a1, rfl⟩ := cW_inv h
    exact ⟨k, (List.getElem?_eq_some_iff.mp a1).1, rfl⟩
/-- the cell at k alone is another one -/
theorem cW_set {S : qWo} {ad : Nat → Nat} {dA : FieldType → ClassId} {σ τ : qMem} {k : Nat} {e : qSh} (h : S.1[k]? = some e) (h1 : ∀ k', k' ≠ k → σ.1 k' = τ.1 k') (h2 : ∀ k', k' ≠ k → σ.2 k' = τ.2 k') : cW S ad dA τ = (cW S ad dA σ).set k (ad k, cE ad dA τ k e) := by
  apply List.ext_getElem?
  intro i
  by_cases hi : i = k
  · subst hi
    rw [List.getElem?_set_self (List.getElem?_eq_some_iff.mp (cW_at h)).1]
    exact cW_at h
  · rw [List.getElem?_set_ne (Ne.symm hi)]
    unfold cW
    rw [List.getElem?_mapIdx, List.getElem?_mapIdx]
    cases S.1[i]? with
    | none => rfl
    | some x =>
      show some _ = some _
      have e1 : cE ad dA τ i x = cE ad dA σ i x := by
        cases x with
        | inl a =>
          obtain ⟨ty, n, ts⟩ := a
          show Sum.inl (dA ty, n, cA ad τ i ts ty) = Sum.inl (dA ty, n, cA ad σ i ts ty)
          have e2 : cA ad τ i ts ty = cA ad σ i ts ty := by
            unfold cA
            rw [h1 i hi, h2 i hi]
          rw [e2]
        | inr o =>
          obtain ⟨ci, ks⟩ := o
          show Sum.inr (ci, ks.mapIdx (fV ad τ i)) = Sum.inr (ci, ks.mapIdx (fV ad σ i))
          have e2 : fV ad τ i = fV ad σ i := by
            funext j kd
            have g1 : gi τ i j = gi σ i j := by unfold gi; rw [h1 i hi]
            have g2 : gl τ i j = gl σ i j := by unfold gl; rw [h2 i hi]
            unfold fV
            rw [g1, g2]
          rw [e2]
      exact congrArg (fun z => some (ad i, z)) e1
theorem sr_ne1 {σ : qMem} {k : Nat} {f : Nat → Int32} : ∀ k', k' ≠ k → σ.1 k' = (sr σ k f).1 k' := fun k' h => by simp [sr, h]
theorem sr_ne2 {σ : qMem} {k : Nat} {f : Nat → Int32} : ∀ k', k' ≠ k → σ.2 k' = (sr σ k f).2 k' := fun _ _ => rfl
theorem slr_ne1 {σ : qMem} {k : Nat} {f : Nat → Int64} : ∀ k', k' ≠ k → σ.1 k' = (slr σ k f).1 k' := fun _ _ => rfl
theorem slr_ne2 {σ : qMem} {k : Nat} {f : Nat → Int64} : ∀ k', k' ≠ k → σ.2 k' = (slr σ k f).2 k' := fun k' h => by simp [slr, h]
theorem sr_at {σ : qMem} {k : Nat} {f : Nat → Int32} : (sr σ k f).1 k = f := by simp [sr]
theorem slr_at {σ : qMem} {k : Nat} {f : Nat → Int64} : (slr σ k f).2 k = f := by simp [slr]
/-- what an array of ints is behind a new row -/
theorem cE_sr {ad : Nat → Nat} {dA : FieldType → ClassId} {σ : qMem} {k n : Nat} {ts : List Nat} {ty : FieldType} {f : Nat → Int32} (hty : ∀ τ : qMem, cA ad τ k ts ty = .inl (τ.1 k)) : cE ad dA (sr σ k f) k (.inl (ty, n, ts)) = .inl (dA ty, n, .inl f) := by
  show Sum.inl (dA ty, n, cA ad (sr σ k f) k ts ty) = _
  rw [hty, sr_at]
theorem cE_slr {ad : Nat → Nat} {dA : FieldType → ClassId} {σ : qMem} {k n : Nat} {ts : List Nat} {f : Nat → Int64} : cE ad dA (slr σ k f) k (.inl (.long, n, ts)) = .inl (dA .long, n, .inr (.inl f)) := by
  show Sum.inl (dA .long, n, Sum.inr (Sum.inl ((slr σ k f).2 k))) = _
  rw [slr_at]
theorem sr_2 {σ : qMem} {k : Nat} {f : Nat → Int32} : (sr σ k f).2 = σ.2 := by unfold sr; rfl
theorem slr_1 {σ : qMem} {k : Nat} {f : Nat → Int64} : (slr σ k f).1 = σ.1 := by unfold slr; rfl
theorem gl_si {σ : qMem} {k j a b : Nat} {x : Int32} : gl (si σ k j x) a b = gl σ a b := by unfold gl si; rw [sr_2]
theorem gi_sl {σ : qMem} {k j a b : Nat} {x : Int64} : gi (sl σ k j x) a b = gi σ a b := by unfold gi sl; rw [slr_1]
theorem gi_si_eq {σ : qMem} {k j : Nat} {x : Int32} : gi (si σ k j x) k j = x := by unfold gi si; rw [sr_at]; exact pk_us
theorem gi_si_j {σ : qMem} {k i j : Nat} {x : Int32} (h : ¬ i = j) : gi (si σ k j x) k i = gi σ k i := by unfold gi si; rw [sr_at]; exact pk_un h
theorem fV_si0 (ad : Nat → Nat) (σ : qMem) (k i : Nat) (x : Int32) : fV ad (si σ k i x) k i (.inl 0) = .int x := by
  show Value.int (gi (si σ k i x) k i) = _
  rw [gi_si_eq]
theorem fV_si2 (ad : Nat → Nat) (σ : qMem) (k i : Nat) (x : Int32) : fV ad (si σ k i x) k i (.inl 2) = .ref (ad x.toNatClampNeg) := by
  show Value.ref (ad (gi (si σ k i x) k i).toNatClampNeg) = _
  rw [gi_si_eq]
theorem mapIdx_set {α β : Type} {f g : Nat → α → β} {l : List α} {j : Nat} {a : α} {y : β} (hj : l[j]? = some a) (h1 : f j a = y) (h2 : ∀ i, ¬ i = j → ∀ b, f i b = g i b) : l.mapIdx f = (l.mapIdx g).set j y := by
  apply List.ext_getElem?
  intro i
  by_cases hi : i = j
  · subst hi
    rw [List.getElem?_set_self (by simpa using (List.getElem?_eq_some_iff.mp hj).1), List.getElem?_mapIdx, hj]
    exact congrArg some h1
  · rw [List.getElem?_set_ne (Ne.symm hi), List.getElem?_mapIdx, List.getElem?_mapIdx]
    cases l[i]? with
    | none => rfl
    | some b => exact congrArg some (h2 i hi b)
theorem fV_cong {ad : Nat → Nat} {σ τ : qMem} {k j : Nat} (h1 : gi τ k j = gi σ k j) (h2 : gl τ k j = gl σ k j) (kd : Nat ⊕ Nat) : fV ad τ k j kd = fV ad σ k j kd := by
  unfold fV
  rw [h1, h2]
theorem fV_sl1 (ad : Nat → Nat) (σ : qMem) (k i : Nat) (x : Int64) : fV ad (sl σ k i x) k i (.inl 1) = .long x := by
  show Value.long (gl (sl σ k i x) k i) = _
  unfold gl sl; rw [slr_at]; exact congrArg _ pk_uLs
/-- what an object is behind a field's change -/
theorem cE_si {ad : Nat → Nat} {dA : FieldType → ClassId} {σ : qMem} {k ci j : Nat} {ks : List (Nat ⊕ Nat)} {x : Int32} (hk : ks[j]? = some (.inl 0)) : cE ad dA (si σ k j x) k (.inr (ci, ks)) = .inr (ci, (ks.mapIdx (fV ad σ k)).set j (.int x)) :=
  congrArg (fun z => Sum.inr (ci, z)) (mapIdx_set (f := fV ad (si σ k j x) k) (g := fV ad σ k) hk (fV_si0 ad σ k j x) (fun _ hi => fV_cong (gi_si_j hi) gl_si))
theorem cE_sd {ad : Nat → Nat} {dA : FieldType → ClassId} {σ : qMem} {k ci j : Nat} {ks : List (Nat ⊕ Nat)} {x : Int32} (hk : ks[j]? = some (.inl 2)) : cE ad dA (si σ k j x) k (.inr (ci, ks)) = .inr (ci, (ks.mapIdx (fV ad σ k)).set j (.ref (ad x.toNatClampNeg))) :=
  congrArg (fun z => Sum.inr (ci, z)) (mapIdx_set (f := fV ad (si σ k j x) k) (g := fV ad σ k) hk (fV_si2 ad σ k j x) (fun _ hi => fV_cong (gi_si_j hi) gl_si))
theorem cE_sl {ad : Nat → Nat} {dA : FieldType → ClassId} {σ : qMem} {k ci j : Nat} {ks : List (Nat ⊕ Nat)} {x : Int64} (hk : ks[j]? = some (.inl 1)) : cE ad dA (sl σ k j x) k (.inr (ci, ks)) = .inr (ci, (ks.mapIdx (fV ad σ k)).set j (.long x)) :=
  congrArg (fun z => Sum.inr (ci, z)) (mapIdx_set (f := fV ad (sl σ k j x) k) (g := fV ad σ k) hk (fV_sl1 ad σ k j x) (fun _ hi => fV_cong gi_sl (by unfold gl sl; rw [slr_at]; exact pk_uLn hi)))
