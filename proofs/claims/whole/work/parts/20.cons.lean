/-! constructors: cells that are being made. A field that holds a cell counts as null while its slot of the memory is 0 -/
def fW (ad : Nat → Nat) (σ : qMem) (k j : Nat) : Nat ⊕ Nat → Value
  | .inl 0 => .int (gi σ k j)
  | .inl 1 => .long (gl σ k j)
  | .inl _ => if gi σ k j = 0 then .null else .ref (ad (gi σ k j).toNatClampNeg)
  | .inr t => if gi σ k j = 0 then .null else .ref (ad t)
def cB (ad : Nat → Nat) (σ : qMem) (k : Nat) (ts : List Nat) (ty : FieldType) : (Nat → Int32) ⊕ (Nat → Int64) ⊕ (Nat → UInt32) ⊕ (Nat → UInt64) ⊕ (Nat → Option Nat) := match ty with
  | .long => .inr (.inl (σ.2 k))
  | .object _ => .inr (.inr (.inr (.inr (fun j => if gi σ k j = 0 then none else (ts[j]?).map ad))))
  | _ => .inl (σ.1 k)
def dE (ad : Nat → Nat) (dA : FieldType → ClassId) (σ : qMem) (k : Nat) : qSh → va_E
  | .inl (ty, n, ts) => .inl (dA ty, n, cB ad σ k ts ty)
  | .inr (ci, ks) => .inr (ci, ks.mapIdx (fW ad σ k))
def dW (S : qWo) (ad : Nat → Nat) (dA : FieldType → ClassId) (σ : qMem) (n : Nat) : va_W := (S.1.take n).mapIdx (fun k e => (ad k, dE ad dA σ k e))
section DW
variable {S : qWo} {ad : Nat → Nat} {dA : FieldType → ClassId} {σ τ : qMem} {k n : Nat} {e : qSh}
theorem dW_get (i : Nat) : (dW S ad dA σ n)[i]? = if i < n then (S.1[i]?).map (fun e => (ad i, dE ad dA σ i e)) else none := by
  unfold dW
  rw [List.getElem?_mapIdx, List.getElem?_take]
  by_cases h : i < n
  · rw [if_pos h, if_pos h]
  · rw [if_neg h, if_neg h]; rfl
theorem dW_at (hk : k < n) (h : S.1[k]? = some e) : (dW S ad dA σ n)[k]? = some (ad k, dE ad dA σ k e) := by
  rw [dW_get, if_pos hk, h]; rfl
theorem dW_D {b0 : Nat} (had : ∀ k, k < S.1.length → ad k = b0 + k) : va_D (fun q => b0 ≤ q) (dW S ad dA σ n) := by
  have key : ∀ (i : Nat) (q : Nat × va_E), (dW S ad dA σ n)[i]? = some q → q.1 = b0 + i := by
    intro i q h
    rw [dW_get] at h
    by_cases hi : i < n
    · rw [if_pos hi] at h
      cases hs : S.1[i]? with
      | none => rw [hs] at h; cases h
      | some x =>
        rw [hs] at h
        rw [← Option.some.inj h]
        exact had i (List.getElem?_eq_some_iff.mp hs).1
    · rw [if_neg hi] at h; cases h
  refine ⟨fun i j p q h1 h2 h3 => ?_, fun i q h => ?_⟩
  · have := key i p h1
    have := key j q h2
    omega
  · have := key i q h
    show b0 ≤ q.1
    omega
theorem dE_cong {i : Nat} (h1 : σ.1 i = τ.1 i) (h2 : σ.2 i = τ.2 i) (x : qSh) : dE ad dA τ i x = dE ad dA σ i x := by
  have g1 : ∀ j, gi τ i j = gi σ i j := fun j => by unfold gi; rw [h1]
  have g2 : ∀ j, gl τ i j = gl σ i j := fun j => by unfold gl; rw [h2]
  cases x with
  | inl a =>
    obtain ⟨ty, m, ts⟩ := a
    refine congrArg (fun z => Sum.inl (dA ty, m, z)) ?_
    unfold cB
    rw [h1, h2]
    cases ty <;> first | rfl | (simp only [g1])
  | inr o =>
    obtain ⟨ci, ks⟩ := o
    refine congrArg (fun z => Sum.inr (ci, ks.mapIdx z)) ?_
    funext j kd
    unfold fW
    rw [g1, g2]
theorem dW_set (hk : k < n) (h : S.1[k]? = some e) (h1 : ∀ k', k' ≠ k → σ.1 k' = τ.1 k') (h2 : ∀ k', k' ≠ k → σ.2 k' = τ.2 k') : dW S ad dA τ n = (dW S ad dA σ n).set k (ad k, dE ad dA τ k e) := by
  apply List.ext_getElem?
  intro i
  by_cases hi : i = k
  · subst hi
    rw [List.getElem?_set_self (List.getElem?_eq_some_iff.mp (dW_at hk h)).1]
    exact dW_at hk h
  · rw [List.getElem?_set_ne (Ne.symm hi), dW_get, dW_get]
    by_cases hn : i < n
    · rw [if_pos hn, if_pos hn]
      cases S.1[i]? with
      | none => rfl
      | some x => exact congrArg (fun z => some (ad i, z)) (dE_cong (h1 i hi) (h2 i hi) x)
    · rw [if_neg hn, if_neg hn]
theorem dW_push (h : S.1[n]? = some e) : dW S ad dA σ (n + 1) = dW S ad dA σ n ++ [(ad n, dE ad dA σ n e)] := by
  have hl : (dW S ad dA σ n).length = n := by
    unfold dW
    rw [List.length_mapIdx, List.length_take]
    have := (List.getElem?_eq_some_iff.mp h).1
    omega
  apply List.ext_getElem?
  intro i
  by_cases hi : i < n
  · rw [List.getElem?_append_left (by rw [hl]; exact hi), dW_get, dW_get, if_pos hi, if_pos (by omega)]
  · by_cases he : i = n
    · subst he
      rw [List.getElem?_append_right (by rw [hl]; exact Nat.le_refl _), hl, Nat.sub_self, dW_at (Nat.lt_succ_self _) h]
      rfl
    · rw [dW_get, if_neg (by omega), List.getElem?_append_right (by rw [hl]; omega), hl]
      rw [List.getElem?_eq_none (by simp; omega)]
end DW
theorem dW_size {S : qWo} {ad : Nat → Nat} {dA : FieldType → ClassId} {σ : qMem} {n b0 cl : Nat} {D : va_G} {H : Heap} {s : State} {locs : List Loc} (had : ∀ k, k < S.1.length → ad k = b0 + k) (hn : n ≤ S.1.length) (hP : va_P D vwCl (dW S ad dA σ n) H) (hsz : s.heap.size + cl = b0 + n) (hS : va_S (fun q => b0 ≤ q) s.heap H locs) (hb : b0 ≤ s.heap.size) (hu : H.size ≤ s.heap.size + cl) : H.size = b0 + n := by
  rcases Nat.eq_zero_or_pos n with h0 | h0
  · have := hS.1
    omega
  · have hl : n - 1 < S.1.length := by omega
    have h1 := (hP (n - 1) _ (dW_at (by omega) (List.getElem?_eq_getElem hl))).lt
    have h2 := had (n - 1) hl
    have h3 : ad (n - 1) < H.size := h1
    omega
theorem W.sz {p : Program} {l : Launch} {e : Env} {R : Room} {s : State} {m : MethodId} {args : Array Value} {below : List Frame} {meth : Method} {c : Code} {H : Heap} {locs : List Loc} {cells slots : Nat} {Q : State → Prop} {g : JFrame} (k : H.size ≤ s.heap.size + cells → W p l e R s m args below meth c H locs cells slots Q g) : W p l e R s m args below meth c H locs cells slots Q g := fun T hT X => k (by rw [← hT]; exact X.heapSize) T hT X
/-- nothing is there yet from n on -/
def qZ (σ : qMem) (n : Nat) : Prop := ∀ k, n ≤ k → (∀ j, σ.1 k j = 0) ∧ ∀ j, σ.2 k j = 0
theorem qZ.succ {σ : qMem} {n : Nat} (h : qZ σ n) : qZ σ (n + 1) := fun k hk => h k (by omega)
theorem qZ.sr {σ : qMem} {n k : Nat} {f : Nat → Int32} (h : qZ σ n) (hk : k < n) : qZ (sr σ k f) n := fun i hi => by
  have hne : i ≠ k := by omega
  refine ⟨fun j => ?_, fun j => ?_⟩
  · rw [← sr_ne1 i hne]; exact (h i hi).1 j
  · rw [← sr_ne2 i hne]; exact (h i hi).2 j
def rmN (M : qMt) (mc ms : Nat) : Room := { frames := M.2.2.2.2.1, cells := mc, slots := ms, locals := M.2.2.2.2.2 }
def qObj : List String := [RX1, RX2, RX7, RX8]
def qPn (S : qWo) (D : va_G) (ad : Nat → Nat) (dA : FieldType → ClassId) (b0 : Nat) (av : List Value) (n : Nat) (σ : qMem) : Array Value → State → Prop := va_Pc (av.map (cV ad)) (fun U => va_P D vwCl (dW S ad dA σ n) U.heap ∧ U.heap.size = b0 + n ∧ va_K D vwCl (qtys dA) U ∧ (∀ w ∈ nws, va_Nw w U) ∧ (∀ C ∈ qObj, va_AO C U) ∧ (S.2 = true → Xc ad (fun q => b0 ≤ q) U))
def qQn (S : qWo) (D : va_G) (ad : Nat → Nat) (dA : FieldType → ClassId) (b0 n : Nat) (ρ : Option Value × qMem) : Array Value → State → Outcome → State → Prop := fun _ st o t => (o = .returned (ρ.1.map (cV ad)) ∧ va_P D vwCl (dW S ad dA ρ.2 n) t.heap) ∧ va_F (fun q => b0 ≤ q) st t
/-- a constructor's contract: from n cells to n' -/
def qMn (S : qWo) (M : qMt) (av : List Value) (n : Nat) (σ : qMem) (n' mc ms : Nat) (r : Option qMem) : Prop := qZ σ n → ∀ τ, r = some τ → qZ τ n' ∧ ∀ (l : Launch) (D : va_G) (ad : Nat → Nat) (dA : FieldType → ClassId) (b0 : Nat), (∀ k, k < S.1.length → ad k = b0 + k) → Met l M.1 (wsM M) (rmN M mc ms) (qPn S D ad dA b0 av n σ) (qQn S D ad dA b0 n' (ρv τ)) mc ms (fun q => b0 ≤ q)
def qFn (S : qWo) (M : qMt) (p : Program) (s : State) (m : MethodId) (args : Array Value) (meth : Method) (c : Code) (D : va_G) (ad : Nat → Nat) (dA : FieldType → ClassId) (b0 : Nat) : Prop := p.tables.exec = Jvm.exec ∧ c.code = M.2.1 ∧ c.maxLocals = M.2.2.1 ∧ s.vm.findClass M.1.cls = some m.cls ∧ (∀ w ∈ gws, w.before args s = true) ∧ meth.sig.returnType = M.2.2.2.1 ∧ meth.locks = false ∧ va_K D vwCl (qtys dA) s ∧ (∀ k, k < S.1.length → ad k = b0 + k) ∧ (∀ w ∈ nws, va_Nw w s) ∧ (∀ C ∈ qObj, va_AO C s) ∧ (S.2 = true → Xc ad (fun q => b0 ≤ q) s) ∧ meth.name = M.1.name ∧ b0 ≤ s.heap.size
def qAn (S : qWo) (M : qMt) (pc : Nat) (L : List (Nat × Value)) (st : List Value) (n : Nat) (σ : qMem) (cl sl n' mc ms : Nat) (r : Option qMem) : Prop :=
  qZ σ n → ∀ τ, r = some τ → qZ τ n' ∧ ∀ (p : Program) (l : Launch) (e : Env) (s : State) (m : MethodId) (args : Array Value) (below : List Frame) (meth : Method) (c : Code) (D : va_G) (ad : Nat → Nat) (dA : FieldType → ClassId) (b0 : Nat), qFn S M p s m args meth c D ad dA b0 →
    ∀ (H : Heap) (locs : List Loc) (ls : Array Slot), va_P D vwCl (dW S ad dA σ n) H → s.heap.size + cl = b0 + n → va_S (fun q => b0 ≤ q) s.heap H locs → lv_has ls M.2.2.1 (cL ad L) →
      W p l e (rmN M mc ms) s m args below meth c H locs cl sl (MQ below (qQn S D ad dA b0 n' (ρv τ)) args s mc ms (fun q => b0 ≤ q)) (F0 m pc ls (st.map (cV ad)))
theorem qMn_of {S : qWo} {M : qMt} {av : List Value} {n : Nat} {σ : qMem} {n' mc ms : Nat} {r : Option qMem} (hM : mOK M) (hn : (lg_sl av).length ≤ M.2.2.1) (h : qAn S M 0 (lv_args 0 av) [] n σ 0 0 n' mc ms r) : qMn S M av n σ n' mc ms r := by
  intro hz τ hr
  obtain ⟨h1, h2⟩ := h hz τ hr
  refine ⟨h1, fun l D ad dA b0 had => ?_⟩
  refine va_MetF (cc := M.2.1) (maxL := M.2.2.1) (ret := M.2.2.2.1) hM.2.2.2 rfl ?_
  intro p e s m args below meth c s₁ B hml hv
  obtain ⟨rfl, hP, hsz, hK, hN, hO, hX⟩ := hv
  have hts := atoms_spec (ws := wsM M) B.pre
  have hl := lv_entry (av.map (cV ad)) (n := M.2.2.1) (by rw [cL_sl]; exact hn)
  rw [lg_entry_eq]
  generalize (lg_sl (av.map (cV ad)) ++ List.replicate (M.2.2.1 - (lg_sl (av.map (cV ad))).length) Slot.unset).toArray = ls at hl ⊢
  rw [cL_args] at hl
  exact h2 p l e s m _ below meth c D ad dA b0 ⟨B.exec, B.bytes, hml, findClass_of_methodNamed B.named, fun w hw => hts w (List.mem_cons_of_mem _ hw), B.returns, B.notSynchronized, hK, had, hN, hO, hX, (name_of_methodNamed B.named B.method).1, by omega⟩ s.heap [] ls hP hsz va_S.rf hl
