section QN
variable {S : qWo} {M : qMt} {pc : Nat} {L : List (Nat × Value)} {st : List Value} {n : Nat} {σ : qMem} {cl sl n' mc ms : Nat} {r : Option qMem}
theorem n_none : qAn S M pc L st n σ cl sl n' mc ms none := fun _ _ h => by cases h
theorem n_ck {b : Bool} (k : b = true → qAn S M pc L st n σ cl sl n' mc ms r) : qAn S M pc L st n σ cl sl n' mc ms (if b = true then r else none) := by
  by_cases h : b = true
  · rw [if_pos h]; exact k h
  · rw [if_neg h]; exact n_none
theorem n_nmM {f : qMem → Option qMem} (k : qAn S M pc L st n σ cl sl n' mc ms (f σ)) : qAn S M pc L st n σ cl sl n' mc ms (nmM σ f) := k
theorem n_widen {sl' : Nat} (h2 : sl ≤ sl') (k : qAn S M pc L st n σ cl sl' n' mc ms r) : qAn S M pc L st n σ cl sl n' mc ms r := by
  intro hz τ hr
  obtain ⟨g1, g2⟩ := k hz τ hr
  exact ⟨g1, fun p l e s m args below meth c D ad dA b0 hF H locs ls hP hsz hS hl => W.widen (Nat.le_refl _) h2 (g2 p l e s m args below meth c D ad dA b0 hF H locs ls hP hsz hS hl)⟩
theorem n_stk {st' : List Value} (h : st = st') (k : qAn S M pc L st' n σ cl sl n' mc ms r) : qAn S M pc L st n σ cl sl n' mc ms r := h ▸ k

theorem n_iconst {v0 : Int} {v : Int32} (hd : decode M.2.1 pc = .ok (.iconst v0, 1)) (hv : Int32.ofInt v0 = v) (k : qAn S M (pc + 1) L (.int v :: st) n σ cl sl n' mc ms r) : qAn S M pc L (st) n σ cl sl n' mc ms r := by
  intro hz τ hr
  obtain ⟨g1, g2⟩ := k hz τ hr
  refine ⟨g1, fun p l e s m args below meth c D ad dA b0 hF H locs ls hP hsz hS hl => ?_⟩
  exact lv_iconst hF.1 hF.2.1 hd hv (g2 p l e s m args below meth c D ad dA b0 hF H locs ls hP hsz hS hl)
theorem n_bipush {v0 : Int} {v : Int32} (hd : decode M.2.1 pc = .ok (.bipush v0, 2)) (hv : (Int8.ofInt v0).toInt32 = v) (k : qAn S M (pc + 2) L (.int v :: st) n σ cl sl n' mc ms r) : qAn S M pc L (st) n σ cl sl n' mc ms r := by
  intro hz τ hr
  obtain ⟨g1, g2⟩ := k hz τ hr
  refine ⟨g1, fun p l e s m args below meth c D ad dA b0 hF H locs ls hP hsz hS hl => ?_⟩
  exact lv_bipush hF.1 hF.2.1 hd hv (g2 p l e s m args below meth c D ad dA b0 hF H locs ls hP hsz hS hl)
theorem n_sipush {v0 : Int} {v : Int32} (hd : decode M.2.1 pc = .ok (.sipush v0, 3)) (hv : (Int16.ofInt v0).toInt32 = v) (k : qAn S M (pc + 3) L (.int v :: st) n σ cl sl n' mc ms r) : qAn S M pc L (st) n σ cl sl n' mc ms r := by
  intro hz τ hr
  obtain ⟨g1, g2⟩ := k hz τ hr
  refine ⟨g1, fun p l e s m args below meth c D ad dA b0 hF H locs ls hP hsz hS hl => ?_⟩
  exact lv_sipush hF.1 hF.2.1 hd hv (g2 p l e s m args below meth c D ad dA b0 hF H locs ls hP hsz hS hl)
theorem n_ldc {index : Nat} {v : Int32} (hd : decode M.2.1 pc = .ok (.ldc index, 2)) (hc : Cond.constant M.1.cls index v ∈ gws) (k : qAn S M (pc + 2) L (.int v :: st) n σ cl sl n' mc ms r) : qAn S M pc L (st) n σ cl sl n' mc ms r := by
  intro hz τ hr
  obtain ⟨g1, g2⟩ := k hz τ hr
  refine ⟨g1, fun p l e s m args below meth c D ad dA b0 hF H locs ls hP hsz hS hl => ?_⟩
  exact lv_ldc hF.1 hF.2.1 hF.2.2.2.1 (hF.2.2.2.2.1 _ hc) hd (g2 p l e s m args below meth c D ad dA b0 hF H locs ls hP hsz hS hl)
theorem n_iload_n {kk : Fin 4} {i : Nat} {x : Int32} (hd : decode M.2.1 pc = .ok (.iload_n kk, 1)) (hi : (kk : Nat) = i) (q : Nat) (hq : L[q]? = some (i, .int x)) (k : qAn S M (pc + 1) L (.int x :: st) n σ cl sl n' mc ms r) : qAn S M pc L (st) n σ cl sl n' mc ms r := by
  intro hz τ hr
  obtain ⟨g1, g2⟩ := k hz τ hr
  refine ⟨g1, fun p l e s m args below meth c D ad dA b0 hF H locs ls hP hsz hS hl => ?_⟩
  exact lv_iload_n hF.1 hF.2.1 hd hi (q_lv hl q hq) (g2 p l e s m args below meth c D ad dA b0 hF H locs ls hP hsz hS hl)
theorem n_aload_n {kk : Fin 4} {i : Nat} {x : Nat} (hd : decode M.2.1 pc = .ok (.aload_n kk, 1)) (hi : (kk : Nat) = i) (q : Nat) (hq : L[q]? = some (i, .ref x)) (k : qAn S M (pc + 1) L (.ref x :: st) n σ cl sl n' mc ms r) : qAn S M pc L (st) n σ cl sl n' mc ms r := by
  intro hz τ hr
  obtain ⟨g1, g2⟩ := k hz τ hr
  refine ⟨g1, fun p l e s m args below meth c D ad dA b0 hF H locs ls hP hsz hS hl => ?_⟩
  exact lv_aload_n hF.1 hF.2.1 hd hi (q_lv hl q hq) (g2 p l e s m args below meth c D ad dA b0 hF H locs ls hP hsz hS hl)
theorem n_imul {x y : Int32} (hd : decode M.2.1 pc = .ok (.imul, 1))  (k : qAn S M (pc + 1) L (.int (x * y) :: st) n σ cl sl n' mc ms r) : qAn S M pc L (.int y :: .int x :: st) n σ cl sl n' mc ms r := by
  intro hz τ hr
  obtain ⟨g1, g2⟩ := k hz τ hr
  refine ⟨g1, fun p l e s m args below meth c D ad dA b0 hF H locs ls hP hsz hS hl => ?_⟩
  exact lv_imul hF.1 hF.2.1 hd (g2 p l e s m args below meth c D ad dA b0 hF H locs ls hP hsz hS hl)
theorem n_iadd {x y z : Int32} (hd : decode M.2.1 pc = .ok (.iadd, 1)) (hxy : x + y = z) (k : qAn S M (pc + 1) L (.int z :: st) n σ cl sl n' mc ms r) : qAn S M pc L (.int y :: .int x :: st) n σ cl sl n' mc ms r := by
  intro hz τ hr
  obtain ⟨g1, g2⟩ := k hz τ hr
  refine ⟨g1, fun p l e s m args below meth c D ad dA b0 hF H locs ls hP hsz hS hl => ?_⟩
  exact lv_iadd hF.1 hF.2.1 hd (by rw [hxy]; exact (g2 p l e s m args below meth c D ad dA b0 hF H locs ls hP hsz hS hl))
theorem n_dup {v : Value} (hd : decode M.2.1 pc = .ok (.dup, 1)) (hv : v.category = 1) (k : qAn S M (pc + 1) L (v :: v :: st) n σ cl sl n' mc ms r) : qAn S M pc L (v :: st) n σ cl sl n' mc ms r := by
  intro hz τ hr
  obtain ⟨g1, g2⟩ := k hz τ hr
  refine ⟨g1, fun p l e s m args below meth c D ad dA b0 hF H locs ls hP hsz hS hl => ?_⟩
  exact lv_dup hF.1 hF.2.1 hd ((cV_cat ad v).trans hv) (g2 p l e s m args below meth c D ad dA b0 hF H locs ls hP hsz hS hl)
theorem n_goto {off : Int} {tgt : Nat} (hd : decode M.2.1 pc = .ok (.goto off, 3)) (ht : (pc : Int) + off = (tgt : Int)) (k : qAn S M (tgt) L (st) n σ cl sl n' mc ms r) : qAn S M pc L (st) n σ cl sl n' mc ms r := by
  intro hz τ hr
  obtain ⟨g1, g2⟩ := k hz τ hr
  refine ⟨g1, fun p l e s m args below meth c D ad dA b0 hF H locs ls hP hsz hS hl => ?_⟩
  exact lv_goto hF.1 hF.2.1 hd ht (g2 p l e s m args below meth c D ad dA b0 hF H locs ls hP hsz hS hl)
theorem n_istore_n {kk : Fin 4} {i : Nat} {x : Int32} {L' : List (Nat × Value)} (hd : decode M.2.1 pc = .ok (.istore_n kk, 1)) (hi : (kk : Nat) = i) (hn : i < M.2.2.1) (hL : (i, Value.int x) :: L.filter (fun q => !(q.1 == i) && !(q.1 + 1 == i && q.2.category == 2)) = L') (k : qAn S M (pc + 1) L' st n σ cl sl n' mc ms r) : qAn S M pc L (.int x :: st) n σ cl sl n' mc ms r := by
  intro hz τ hr
  obtain ⟨g1, g2⟩ := k hz τ hr
  refine ⟨g1, fun p l e s m args below meth c D ad dA b0 hF H locs ls hP hsz hS hl => ?_⟩
  subst hL
  refine lv_istore_n (lv' := cL ad ((i, Value.int x) :: L.filter (fun q => !(q.1 == i) && !(q.1 + 1 == i && q.2.category == 2)))) hF.1 hF.2.1 hd hi hl hn (by rw [q_cLf]; rfl) (fun ls' hl' => ?_)
  exact g2 p l e s m args below meth c D ad dA b0 hF H locs ls' hP hsz hS hl'
theorem n_iinc {i : Nat} {v0 : Int} {x v : Int32} {L' : List (Nat × Value)} (hd : decode M.2.1 pc = .ok (.iinc i v0, 3)) (q : Nat) (hq : L[q]? = some (i, .int x)) (hv : x + Int32.ofInt v0 = v) (hn : i < M.2.2.1) (hL : (i, Value.int v) :: L.filter (fun q => !(q.1 == i) && !(q.1 + 1 == i && q.2.category == 2)) = L') (k : qAn S M (pc + 3) L' st n σ cl sl n' mc ms r) : qAn S M pc L st n σ cl sl n' mc ms r := by
  intro hz τ hr
  obtain ⟨g1, g2⟩ := k hz τ hr
  refine ⟨g1, fun p l e s m args below meth c D ad dA b0 hF H locs ls hP hsz hS hl => ?_⟩
  subst hL
  refine lv_iinc (k := q) (lv' := cL ad ((i, Value.int v) :: L.filter (fun q => !(q.1 == i) && !(q.1 + 1 == i && q.2.category == 2)))) hF.1 hF.2.1 hd hl (by unfold cL; rw [List.getElem?_map, hq]; rfl) hv hn (by rw [q_cLf]; rfl) (fun ls' hl' => ?_)
  exact g2 p l e s m args below meth c D ad dA b0 hF H locs ls' hP hsz hS hl'
theorem n_ge_t {x y : Int32} {off : Int} {tgt : Nat} (hd : decode M.2.1 pc = .ok (.if_icmp .ge off, 3)) (ht : (pc : Int) + off = (tgt : Int)) (h : y ≤ x) (k : qAn S M (tgt) L st n σ cl sl n' mc ms r) : qAn S M pc L (.int y :: .int x :: st) n σ cl sl n' mc ms r := by
  intro hz τ hr
  obtain ⟨g1, g2⟩ := k hz τ hr
  refine ⟨g1, fun p l e s m args below meth c D ad dA b0 hF H locs ls hP hsz hS hl => ?_⟩
  exact lv_icmp_ge hF.1 hF.2.1 hd ht (fun _ => (g2 p l e s m args below meth c D ad dA b0 hF H locs ls hP hsz hS hl)) (fun z => absurd h z)
theorem n_ge_f {x y : Int32} {off : Int} {tgt : Nat} (hd : decode M.2.1 pc = .ok (.if_icmp .ge off, 3)) (ht : (pc : Int) + off = (tgt : Int)) (h : ¬ y ≤ x) (k : qAn S M (pc + 3) L st n σ cl sl n' mc ms r) : qAn S M pc L (.int y :: .int x :: st) n σ cl sl n' mc ms r := by
  intro hz τ hr
  obtain ⟨g1, g2⟩ := k hz τ hr
  refine ⟨g1, fun p l e s m args below meth c D ad dA b0 hF H locs ls hP hsz hS hl => ?_⟩
  exact lv_icmp_ge hF.1 hF.2.1 hd ht (fun z => absurd z h) (fun _ => (g2 p l e s m args below meth c D ad dA b0 hF H locs ls hP hsz hS hl))
theorem n_max {x y : Int32} {idx : Nat} (hd : decode M.2.1 pc = .ok (.invokestatic idx, 3)) (hlk : Cond.methodLink M.1.cls idx Lib.Math.max.name ∈ gws) (h1 : Cond.static Lib.Math.max.name ∈ gws) (h2 : Cond.initialized "java/lang/Math" ∈ gws) (h3 : Cond.code Lib.Math.max.name Lib.Math.max.code 2 (some .int) ∈ gws) (hR : 1 ≤ M.2.2.2.2.1 ∧ (st.map fun v => v.category).sum + 13 ≤ M.2.2.2.2.2) (hb : cl ≤ mc ∧ sl ≤ ms) (k : qAn S M (pc + 3) L (.int (if x < y then y else x) :: st) n σ cl sl n' mc ms r) : qAn S M pc L (.int y :: .int x :: st) n σ cl sl n' mc ms r := by
  intro hz τ hr
  obtain ⟨g1, g2⟩ := k hz τ hr
  refine ⟨g1, fun p l e s m args below meth c D ad dA b0 hF H locs ls hP hsz hS hl => ?_⟩
  exact va_mmax hF.1 hF.2.1 (hF.2.2.1.trans hl.1.symm) hF.2.2.2.1 (hF.2.2.2.2.1 _ hlk) (hF.2.2.2.2.1 _ h1) (hF.2.2.2.2.1 _ h2) (hF.2.2.2.2.1 _ h3) hR.1 (by rw [q_cat]; exact hR.2) hb.1 hb.2 hd (g2 p l e s m args below meth c D ad dA b0 hF H locs ls hP hsz hS hl)
theorem n_obj {k0 idx : Nat} (hd : decode M.2.1 pc = .ok (.invokespecial idx, 3)) (hlk : Cond.methodLink M.1.cls idx Lib.objectInit ∈ gws) (h1 : Cond.instanceMethod Lib.objectInit ∈ gws) (h2 : Cond.code Lib.objectInit ⟨#[0xb1]⟩ 1 none ∈ gws) (hR : 1 ≤ M.2.2.2.2.1 ∧ (st.map fun v => v.category).sum + 12 ≤ M.2.2.2.2.2) (k : qAn S M (pc + 3) L st n σ cl sl n' mc ms r) : qAn S M pc L (.ref k0 :: st) n σ cl sl n' mc ms r := by
  intro hz τ hr
  obtain ⟨g1, g2⟩ := k hz τ hr
  refine ⟨g1, fun p l e s m args below meth c D ad dA b0 hF H locs ls hP hsz hS hl => ?_⟩
  refine W.objInit hF.1 hF.2.1 hF.2.2.2.1 (hF.2.2.2.2.1 _ hlk) (hF.2.2.2.2.1 _ h1) (hF.2.2.2.2.1 _ h2) rfl (by rw [hF.2.2.1]; exact hl.1) rfl hd hR.1 (by show 2 * 0 + ((st.map (cV ad)).map fun v => v.category).sum + 12 ≤ _; rw [q_cat, Nat.mul_zero, Nat.zero_add]; exact hR.2) ?_
  exact (g2 p l e s m args below meth c D ad dA b0 hF H locs ls hP hsz hS hl)
def kd0 : Nat ⊕ Nat → Value
  | .inl 0 => .int 0
  | .inl 1 => .long 0
  | _ => .null
theorem fW_0 {ad : Nat → Nat} {σ : qMem} {k j : Nat} (h1 : gi σ k j = 0) (h2 : gl σ k j = 0) (kd : Nat ⊕ Nat) : fW ad σ k j kd = kd0 kd := by
  unfold fW kd0
  split <;> simp_all
/-- a class that can be made -/
def cOK (own : String) (idx ci : Nat) (N : Nat) (ty : Nat → FieldType) : Prop := ∃ (C : String) (T : u_T), vwCl[ci]? = some (C, T, N) ∧ (∀ w ∈ u_ws C T N, w ∈ gws) ∧ (∀ k, k < N → parseFieldDescriptor (T k).2.2.1 = some (ty k)) ∧ Cond.classLink own idx C ∈ gws ∧ Cond.instantiable C N ∈ gws ∧ Cond.initialized C ∈ gws
theorem n_new {idx ci N : Nat} {ty : Nat → FieldType} {ks : List (Nat ⊕ Nat)} (hd : decode M.2.1 pc = .ok (.new idx, 3)) (hc : cOK M.1.cls idx ci N ty) (hs : S.1[n]? = some (.inr (ci, ks))) (hk : ks.map kd0 = (List.range N).map (fun j => defaultValue (ty j))) (hb : cl + 1 ≤ mc ∧ sl + N ≤ ms) (k : qAn S M (pc + 3) L (.ref n :: st) (n + 1) σ (cl + 1) (sl + N) n' mc ms r) : qAn S M pc L st n σ cl sl n' mc ms r := by
  intro hz τ hr
  obtain ⟨g1, g2⟩ := k hz.succ τ hr
  refine ⟨g1, fun p l e s m args below meth c D ad dA b0 hF H locs ls hP hsz hS hl => ?_⟩
  obtain ⟨C, T, h1, h2, h3, h4, h5, h6⟩ := hc
  have hK := hF.2.2.2.2.2.2.2.1
  have hKn := hK.1 ci _ h1
  have hlen := (List.getElem?_eq_some_iff.mp hs).1
  have had := hF.2.2.2.2.2.2.2.2.1 n hlen
  refine W.sz (fun hu => ?_)
  have hsz1 := dW_size hF.2.2.2.2.2.2.2.2.1 (Nat.le_of_lt hlen) hP hsz hS hF.2.2.2.2.2.2.2.2.2.2.2.2.2 hu
  refine W.newcK hF.1 hF.2.1 hF.2.2.2.1 (hF.2.2.2.2.1 _ h4) (hF.2.2.2.2.1 _ h5) (hF.2.2.2.2.1 _ h6) rfl hd hb.1 hb.2 hKn.2.1 hsz1 fun H1 kC hkC e1 z1 o1 => ?_
  rw [← had] at e1 ⊢
  refine g2 p l e s m args below meth c D ad dA b0 hF H1 locs ls ?_ (by omega) ⟨Nat.le_trans hS.1 (by omega), fun x q1 q2 => (o1 x (by have := hS.1; omega)).trans (hS.2.1 x q1 q2), hS.2.2⟩ hl
  rw [dW_push hs]
  refine va_P.app (hP.kept (fun j x hx => o1 x.1 (by have := (hP j x hx).lt; omega))) (fun j x hx => ?_)
  have hj : j < 1 := (List.getElem?_eq_some_iff.mp hx).1
  rw [show j = 0 by omega] at hx
  cases hx
  refine ⟨_, h1, (u_born ty hF.2.2.2.2.1 h2 hKn hkC e1 h3).to (fun j hj => ?_)⟩
  have q1 : (ks.map kd0)[j]? = some (defaultValue (ty j)) := by rw [hk, List.getElem?_map, List.getElem?_range hj]; rfl
  have q2 : (ks.mapIdx (fW ad σ n))[j]? = (ks.map kd0)[j]? := by
    rw [List.getElem?_mapIdx, List.getElem?_map]
    cases ks[j]? with
    | none => rfl
    | some kd => exact congrArg some (fW_0 ((hz n (Nat.le_refl n)).1 j) ((hz n (Nat.le_refl n)).2 j) kd)
  show defaultValue (ty j) = vp_V (ks.mapIdx (fW ad σ n)) j
  simp [vp_V, q2, q1]
/-- which class an array has -/
theorem qK_arr {D : va_G} {dA : FieldType → ClassId} {s : State} {ty : FieldType} {cA : ClassId} (hK : va_K D vwCl (qtys dA) s) {t0 : Nat} (ht : (qtys dA)[t0]? = some (dA ty, ty)) (hty : ∀ C, ty ≠ .object C) (h : s.vm.findClass ("[" ++ ty.toString) = some cA) : cA = dA ty := by
  have h1 := (hK.2 t0 _ ht).2
  cases ty <;> first | exact absurd rfl (hty _) | exact Option.some.inj (h.symm.trans h1)
theorem qK_obj {D : va_G} {dA : FieldType → ClassId} {s : State} {C : String} {cA : ClassId} (hK : va_K D vwCl (qtys dA) s) {t0 : Nat} (ht : (qtys dA)[t0]? = some (dA (.object C), .object C)) (h : s.vm.findClass ("[" ++ (FieldType.object C).toString) = some cA) : cA = dA (.object C) := by
  obtain ⟨_, _, _, _, _, h1⟩ := (hK.2 t0 _ ht).2
  exact Option.some.inj (h.symm.trans h1)
def ckN (x : Int32) (N : Nat) : Bool := decide (¬ x < 0 ∧ x.toNatClampNeg = N)
theorem n_newa {atype : ArrayType} {ty : FieldType} {N t0 : Nat} {x : Int32} (hd : decode M.2.1 pc = .ok (.newarray atype, 2)) (hty : newarray.typeOf atype = ty) (hw : Cond.arrayClass ty ∈ gws) (ht : ∀ dA, (qtys dA)[t0]? = some (dA ty, ty)) (hno : ∀ C, ty ≠ .object C) (hs : S.1[n]? = some (.inl (ty, N, []))) (hB : N ≤ 60000) (hcb : componentBytes ty ≤ 8) (hcell : ∀ (ad : Nat → Nat) (cA : ClassId), qZ σ n → vp_cell cA (N, cB ad σ n [] ty) = arrV cA N (fun _ => defaultValue ty)) (hb : cl + 1 ≤ mc ∧ sl + N ≤ ms) (k : qAn S M (pc + 2) L (.ref n :: st) (n + 1) σ (cl + 1) (sl + N) n' mc ms r) : qAn S M pc L (.int x :: st) n σ cl sl n' mc ms (if ckN x N = true then r else none) := by
  refine n_ck (fun hx => ?_)
  intro hz τ hr
  obtain ⟨g1, g2⟩ := k hz.succ τ hr
  refine ⟨g1, fun p l e s m args below meth c D ad dA b0 hF H locs ls hP hsz hS hl => ?_⟩
  obtain ⟨hx1, hx2⟩ := of_decide_eq_true hx
  subst hty
  have hlen := (List.getElem?_eq_some_iff.mp hs).1
  have had := hF.2.2.2.2.2.2.2.2.1 n hlen
  refine W.sz (fun hu => ?_)
  have hsz1 := dW_size hF.2.2.2.2.2.2.2.2.1 (Nat.le_of_lt hlen) hP hsz hS hF.2.2.2.2.2.2.2.2.2.2.2.2.2 hu
  refine va_newaK hF.1 hF.2.1 (hF.2.2.2.2.1 _ hw) rfl hd rfl hx1 hx2 (Nat.le_trans (Nat.mul_le_mul hB hcb) (by decide)) hb.1 hb.2 hsz1 fun H1 cA e1 z1 o1 hAr hNm => ?_
  have hcA := qK_arr hF.2.2.2.2.2.2.2.1 (ht dA) hno hNm
  subst hcA
  rw [← had] at e1 ⊢
  refine g2 p l e s m args below meth c D ad dA b0 hF H1 locs ls ?_ (by omega) ⟨Nat.le_trans hS.1 (by omega), fun x q1 q2 => (o1 x (by have := hS.1; omega)).trans (hS.2.1 x q1 q2), hS.2.2⟩ hl
  rw [dW_push hs]
  refine va_P.app (hP.kept (fun j x hx => o1 x.1 (by have := (hP j x hx).lt; omega))) (fun j x hx => ?_)
  have hj : j < 1 := (List.getElem?_eq_some_iff.mp hx).1
  rw [show j = 0 by omega] at hx
  cases hx
  show H1[ad n]? = some (vp_cell _ (N, cB ad σ n [] (newarray.typeOf atype)))
  rw [hcell ad _ hz]
  exact e1
theorem cB_int {σ : qMem} {n N : Nat} {ad : Nat → Nat} {cA : ClassId} (hz : qZ σ n) : vp_cell cA (N, cB ad σ n [] .int) = arrV cA N (fun _ => defaultValue .int) := by
  show vp_cell cA (N, .inl (σ.1 n)) = _
  rw [vp_cell_i, funext (hz n (Nat.le_refl n)).1]
  rfl
theorem cB_bool {σ : qMem} {n N : Nat} {ad : Nat → Nat} {cA : ClassId} (hz : qZ σ n) : vp_cell cA (N, cB ad σ n [] .boolean) = arrV cA N (fun _ => defaultValue .boolean) := by
  show vp_cell cA (N, .inl (σ.1 n)) = _
  rw [vp_cell_i, funext (hz n (Nat.le_refl n)).1]
  rfl
theorem cB_byte {σ : qMem} {n N : Nat} {ad : Nat → Nat} {cA : ClassId} (hz : qZ σ n) : vp_cell cA (N, cB ad σ n [] .byte) = arrV cA N (fun _ => defaultValue .byte) := by
  show vp_cell cA (N, .inl (σ.1 n)) = _
  rw [vp_cell_i, funext (hz n (Nat.le_refl n)).1]
  rfl
theorem cB_long {σ : qMem} {n N : Nat} {ad : Nat → Nat} {cA : ClassId} (hz : qZ σ n) : vp_cell cA (N, cB ad σ n [] .long) = arrV cA N (fun _ => defaultValue .long) := by
  show vp_cell cA (N, .inr (.inl (σ.2 n))) = _
  rw [vp_cell_l, funext (hz n (Nat.le_refl n)).2]
  rfl
theorem n_newq {idx N t0 : Nat} {C : String} {ts : List Nat} {x : Int32} (hd : decode M.2.1 pc = .ok (.anewarray idx, 3)) (hw : Cond.classLink M.1.cls idx C ∈ gws) (hC : C ∈ qObj) (ht : ∀ dA, (qtys dA)[t0]? = some (dA (.object C), .object C)) (hs : S.1[n]? = some (.inl (.object C, N, ts))) (hB : N ≤ 60000) (hx1 : ¬ x < 0) (hx2 : x.toNatClampNeg = N) (hb : cl + 1 ≤ mc ∧ sl + N ≤ ms) (k : qAn S M (pc + 3) L (.ref n :: st) (n + 1) σ (cl + 1) (sl + N) n' mc ms r) : qAn S M pc L (.int x :: st) n σ cl sl n' mc ms r := by
  intro hz τ hr
  obtain ⟨g1, g2⟩ := k hz.succ τ hr
  refine ⟨g1, fun p l e s m args below meth c D ad dA b0 hF H locs ls hP hsz hS hl => ?_⟩
  have hlen := (List.getElem?_eq_some_iff.mp hs).1
  have had := hF.2.2.2.2.2.2.2.2.1 n hlen
  refine W.sz (fun hu => ?_)
  have hsz1 := dW_size hF.2.2.2.2.2.2.2.2.1 (Nat.le_of_lt hlen) hP hsz hS hF.2.2.2.2.2.2.2.2.2.2.2.2.2 hu
  refine W.anew hF.1 hF.2.1 hF.2.2.2.1 (hF.2.2.2.2.1 _ hw) (va_AO.use (hF.2.2.2.2.2.2.2.2.2.2.1 _ hC)) rfl hd rfl hx1 (by rw [hx2]; exact Nat.le_trans (Nat.mul_le_mul hB (Nat.le_refl 4)) (by decide)) hb.1 (by rw [hx2]; exact hb.2) fun cA kA comp f1 f2 f3 f4 => ?_
  have hcA := qK_obj hF.2.2.2.2.2.2.2.1 (ht dA) f1
  subst hcA
  rw [hx2, hsz1, ← had]
  generalize hH1 : H.push ({ cls := dA (.object C), slots := Array.replicate N .null, vm := .none } : Cell) = H1
  have z1 : H1.size = H.size + 1 := by rw [← hH1, Array.size_push]
  have e1 : H1[ad n]? = some (arrV (dA (.object C)) N (fun _ => .null)) := by rw [← hH1, had, ← hsz1, Array.getElem?_push_size, ← arrV_new]
  have o1 : ∀ q : Nat, q < H.size → H1[q]? = H[q]? := fun q hq => by rw [← hH1, Array.getElem?_push, if_neg (Nat.ne_of_lt hq)]
  refine g2 p l e s m args below meth c D ad dA b0 hF H1 locs ls ?_ (by omega) ⟨Nat.le_trans hS.1 (by omega), fun x q1 q2 => (o1 x (by have := hS.1; omega)).trans (hS.2.1 x q1 q2), hS.2.2⟩ hl
  rw [dW_push hs]
  refine va_P.app (hP.kept (fun j x hx => o1 x.1 ((hP j x hx).lt))) (fun j x hx => ?_)
  have hj : j < 1 := (List.getElem?_eq_some_iff.mp hx).1
  rw [show j = 0 by omega] at hx
  cases hx
  show H1[ad n]? = some (vp_cell _ (N, .inr (.inr (.inr (.inr (fun j => if gi σ n j = 0 then none else (ts[j]?).map ad))))))
  have e2 : (fun j => if gi σ n j = 0 then none else (ts[j]?).map ad) = fun _ => (none : Option Nat) := by
    funext j
    rw [if_pos (show gi σ n j = 0 from (hz n (Nat.le_refl n)).1 j)]
  rw [e2, vp_cell_q]
  exact e1
/-- getfield -/
theorem n_getV {k0 ci j idx : Nat} {ks : List (Nat ⊕ Nat)} {kd : Nat ⊕ Nat} {v : Value} (hd : decode M.2.1 pc = .ok (.getfield idx, 3)) (hf : fOK M.1.cls idx ci j) (hkn : k0 < n) (hk : S.1[k0]? = some (.inr (ci, ks))) (hj : ks[j]? = some kd) (hv : ∀ ad, fW ad σ k0 j kd = cV ad v) (k : qAn S M (pc + 3) L (v :: st) n σ cl sl n' mc ms r) : qAn S M pc L (.ref k0 :: st) n σ cl sl n' mc ms r := by
  intro hz τ hr
  obtain ⟨g1, g2⟩ := k hz τ hr
  refine ⟨g1, fun p l e s m args below meth c D ad dA b0 hF H locs ls hP hsz hS hl => ?_⟩
  obtain ⟨C, T, N, ty, h1, h2, h3, h4, h5, h6, h7⟩ := hf
  have hfs : (ks.mapIdx (fW ad σ k0))[j]? = some (cV ad v) := by rw [List.getElem?_mapIdx, hj]; exact congrArg some (hv ad)
  have kk' := (g2 p l e s m args below meth c D ad dA b0 hF H locs ls hP hsz hS hl)
  rcases h7 with h7 | ⟨host, h7⟩
  · exact va_get (D := D) (ci := ci) (v := cV ad v) (C := C) (T := T) (N := N) hF.1 hF.2.1 hF.2.2.2.2.1 h3 hF.2.2.2.1 hF.2.2.2.2.2.2.2.1 hP _ (dW_at hkn hk) h1 j h2 (hF.2.2.2.2.1 _ h7) (fun _ h9 => by rw [h6] at h9; exact h9) hfs hd kk'
  · exact va_getN (D := D) (ci := ci) (v := cV ad v) (C := C) (T := T) (N := N) hF.1 hF.2.1 hF.2.2.2.2.1 h3 hF.2.2.2.1 hF.2.2.2.2.2.2.2.1 hP _ (dW_at hkn hk) h1 j h2 (va_Nw.use rfl (hF.2.2.2.2.2.2.2.2.2.1 _ h7)) (fun _ h9 => by rw [h6] at h9; exact h9) hfs hd kk'

/-- a field of this class, by its own constructor or not final -/
def fOKp (own : String) (idx ci j : Nat) : Prop := ∃ (C : String) (T : u_T) (N : Nat) (ty : Nat → FieldType), vwCl[ci]? = some (C, T, N) ∧ j < N ∧ (∀ w ∈ u_ws C T N, w ∈ gws) ∧ (∀ k, k < N → parseFieldDescriptor (T k).2.2.1 = some (ty k)) ∧ (∀ a, a < N → ∀ b, b < N → a ≠ b → (T a).2.1 ≠ (T b).2.1) ∧ (T j).1 = C ∧ Cond.fieldLink own idx C (T j).2.1 (T j).2.2.1 ∈ gws
def fWn (own : String) (ci j : Nat) (t : FieldType) : Prop := ∃ q : vw_C, vwCl[ci]? = some q ∧ parseFieldDescriptor (q.2.1 j).2.2.1 = some t ∧ ((q.2.1 j).2.2.2 = false ∨ ((q.2.1 j).2.2.2 = true ∧ (q.2.1 j).1 = own))
theorem n_putV {k ci j idx : Nat} {ks : List (Nat ⊕ Nat)} {v : Value} {x : Int32} {t : FieldType} (hd : decode M.2.1 pc = .ok (.putfield idx, 3)) (hf : fOKp M.1.cls idx ci j) (hi : M.1.name = "<init>") (hw : fWn M.1.cls ci j t) (hkn : k < n) (hk : S.1[k]? = some (.inr (ci, ks))) (hj : j < ks.length) (hn : ∀ ad, narrow t (cV ad v) = cV ad v) (hfit : ∀ ad, fits t (cV ad v) = true) (hτ : ∀ ad dA, dE ad dA (si σ k j x) k (.inr (ci, ks)) = .inr (ci, (ks.mapIdx (fW ad σ k)).set j (cV ad v))) (kk : qAn S M (pc + 3) L st n (si σ k j x) cl sl n' mc ms r) : qAn S M pc L (v :: .ref k :: st) n σ cl sl n' mc ms r := by
  intro hz τ hr
  obtain ⟨g1, g2⟩ := kk (hz.sr hkn) τ hr
  refine ⟨g1, fun p l e s m args below meth c D ad dA b0 hF H locs ls hP hsz hS hl => ?_⟩
  obtain ⟨C, T, N, ty, h1, h2, h3, h4, h5, h6, h7⟩ := hf
  obtain ⟨q, w1, w2, w3⟩ := hw
  obtain rfl : q = (C, T, N) := Option.some.inj (w1.symm.trans h1)
  have hD := dW_D (dA := dA) (σ := σ) (n := n) hF.2.2.2.2.2.2.2.2.1
  have fin : ∀ (H1 : Heap) (locs1 : List Loc), va_P D vwCl ((dW S ad dA σ n).set k (ad k, .inr (ci, (ks.mapIdx (fW ad σ k)).set j (cV ad v)))) H1 → va_D (fun q => b0 ≤ q) ((dW S ad dA σ n).set k (ad k, .inr (ci, (ks.mapIdx (fW ad σ k)).set j (cV ad v)))) → va_S (fun q => b0 ≤ q) s.heap H1 locs1 → W p l e (rmN M mc ms) s m args below meth c H1 locs1 cl sl (MQ below (qQn S D ad dA b0 n' (ρv τ)) args s mc ms (fun q => b0 ≤ q)) (F0 m (pc + 3) ls (st.map (cV ad))) := by
    intro H1 locs1 hP1 _ hS1
    refine g2 p l e s m args below meth c D ad dA b0 hF H1 locs1 ls ?_ hsz hS1 hl
    rw [show dW S ad dA (si σ k j x) n = _ from dW_set hkn hk sr_ne1 sr_ne2, hτ]
    exact hP1
  rcases w3 with w3 | ⟨w3, w4⟩
  · exact va_put (D := D) (ci := ci) (v := cV ad v) (ty := t) (C := C) (T := T) (N := N) hF.1 hF.2.1 hF.2.2.2.2.1 h3 ty h4 h5 hF.2.2.2.1 hF.2.2.2.2.2.2.2.1 hP hD hS k (dW_at hkn hk) h1 j h2 (hF.2.2.2.2.1 _ h7) (fun _ h9 => by rw [h6] at h9; exact h9) w3 w2 (hn ad) (hfit ad) (by simpa using hj) hd fin
  · exact va_putF (D := D) (ci := ci) (v := cV ad v) (ty := t) (C := C) (T := T) (N := N) hF.1 hF.2.1 hF.2.2.2.2.1 h3 ty h4 h5 hF.2.2.2.1 hF.2.2.2.2.2.2.2.1 hP hD hS k (dW_at hkn hk) h1 j h2 (hF.2.2.2.2.1 _ h7) (fun _ h9 => by rw [h6] at h9; exact h9) w3 (hF.2.2.2.2.2.2.2.2.2.2.2.2.1.trans hi) w4 w2 (hn ad) (hfit ad) (by simpa using hj) hd fin
theorem fW_cong {ad : Nat → Nat} {σ τ : qMem} {k j : Nat} (h1 : gi τ k j = gi σ k j) (h2 : gl τ k j = gl σ k j) (kd : Nat ⊕ Nat) : fW ad τ k j kd = fW ad σ k j kd := by
  unfold fW
  rw [h1, h2]
theorem dE_si {ad : Nat → Nat} {dA : FieldType → ClassId} {σ : qMem} {k ci j : Nat} {ks : List (Nat ⊕ Nat)} {x : Int32} {kd : Nat ⊕ Nat} {v : Value} (hk : ks[j]? = some kd) (h : fW ad (si σ k j x) k j kd = v) : dE ad dA (si σ k j x) k (.inr (ci, ks)) = .inr (ci, (ks.mapIdx (fW ad σ k)).set j v) :=
  congrArg (fun z => Sum.inr (ci, z)) (mapIdx_set (f := fW ad (si σ k j x) k) (g := fW ad σ k) hk h (fun _ hi => fW_cong (gi_si_j hi) gl_si))
theorem n_puti {k ci j idx : Nat} {ks : List (Nat ⊕ Nat)} {x : Int32} (hd : decode M.2.1 pc = .ok (.putfield idx, 3)) (hf : fOKp M.1.cls idx ci j) (hi : M.1.name = "<init>") (hw : fWn M.1.cls ci j .int) (hkn : k < n) (hk : S.1[k]? = some (.inr (ci, ks))) (hj : ks[j]? = some (.inl 0)) (kk : qAn S M (pc + 3) L st n (si σ k j x) cl sl n' mc ms r) : qAn S M pc L (.int x :: .ref k :: st) n σ cl sl n' mc ms r :=
  n_putV hd hf hi hw hkn hk (List.getElem?_eq_some_iff.mp hj).1 (fun _ => rfl) (fun _ => rfl) (fun _ _ => dE_si hj (by show Value.int (gi (si σ k j x) k j) = _; rw [gi_si_eq]; rfl)) kk
theorem n_putz {k ci j idx : Nat} {ks : List (Nat ⊕ Nat)} {x : Int32} (hd : decode M.2.1 pc = .ok (.putfield idx, 3)) (hf : fOKp M.1.cls idx ci j) (hi : M.1.name = "<init>") (hw : fWn M.1.cls ci j .boolean) (hkn : k < n) (hk : S.1[k]? = some (.inr (ci, ks))) (hj : ks[j]? = some (.inl 0)) (hx : x = 0 ∨ x = 1) (kk : qAn S M (pc + 3) L st n (si σ k j x) cl sl n' mc ms r) : qAn S M pc L (.int x :: .ref k :: st) n σ cl sl n' mc ms r :=
  n_putV hd hf hi hw hkn hk (List.getElem?_eq_some_iff.mp hj).1 (fun _ => by rcases hx with rfl | rfl <;> rfl) (fun _ => by rcases hx with rfl | rfl <;> rfl) (fun _ _ => dE_si hj (by show Value.int (gi (si σ k j x) k j) = _; rw [gi_si_eq]; rfl)) kk
theorem n_putr {k ci j idx t : Nat} {ks : List (Nat ⊕ Nat)} {ty : FieldType} (hd : decode M.2.1 pc = .ok (.putfield idx, 3)) (hf : fOKp M.1.cls idx ci j) (hi : M.1.name = "<init>") (hw : fWn M.1.cls ci j ty) (hty : (∃ C, ty = .object C) ∨ ∃ u, ty = .array u) (hkn : k < n) (hk : S.1[k]? = some (.inr (ci, ks))) (hj : ks[j]? = some (.inr t)) (kk : qAn S M (pc + 3) L st n (si σ k j 1) cl sl n' mc ms r) : qAn S M pc L (.ref t :: .ref k :: st) n σ cl sl n' mc ms r :=
  n_putV hd hf hi hw hkn hk (List.getElem?_eq_some_iff.mp hj).1 (fun _ => by rcases hty with ⟨_, rfl⟩ | ⟨_, rfl⟩ <;> rfl) (fun _ => by rcases hty with ⟨_, rfl⟩ | ⟨_, rfl⟩ <;> rfl) (fun ad _ => dE_si hj (by show (if gi (si σ k j 1) k j = 0 then Value.null else .ref (ad t)) = _; rw [gi_si_eq]; rfl)) kk
theorem n_putd {k ci j idx t : Nat} {ks : List (Nat ⊕ Nat)} {ty : FieldType} {x : Int32} (hd : decode M.2.1 pc = .ok (.putfield idx, 3)) (hf : fOKp M.1.cls idx ci j) (hi : M.1.name = "<init>") (hw : fWn M.1.cls ci j ty) (hty : (∃ C, ty = .object C) ∨ ∃ u, ty = .array u) (hkn : k < n) (hk : S.1[k]? = some (.inr (ci, ks))) (hj : ks[j]? = some (.inl 2)) (hx : ¬ x = 0 ∧ x.toNatClampNeg = t) (kk : qAn S M (pc + 3) L st n (si σ k j x) cl sl n' mc ms r) : qAn S M pc L (.ref t :: .ref k :: st) n σ cl sl n' mc ms r :=
  n_putV hd hf hi hw hkn hk (List.getElem?_eq_some_iff.mp hj).1 (fun _ => by rcases hty with ⟨_, rfl⟩ | ⟨_, rfl⟩ <;> rfl) (fun _ => by rcases hty with ⟨_, rfl⟩ | ⟨_, rfl⟩ <;> rfl) (fun ad _ => dE_si hj (by show (if gi (si σ k j x) k j = 0 then Value.null else .ref (ad (gi (si σ k j x) k j).toNatClampNeg)) = _; rw [gi_si_eq, if_neg hx.1, hx.2]; rfl)) kk
theorem n_geti {k ci j idx : Nat} {ks : List (Nat ⊕ Nat)} (hd : decode M.2.1 pc = .ok (.getfield idx, 3)) (hf : fOK M.1.cls idx ci j) (hkn : k < n) (hk : S.1[k]? = some (.inr (ci, ks))) (hj : ks[j]? = some (.inl 0)) (kk : qAn S M (pc + 3) L (.int (gi σ k j) :: st) n σ cl sl n' mc ms r) : qAn S M pc L (.ref k :: st) n σ cl sl n' mc ms r := n_getV hd hf hkn hk hj (fun _ => rfl) kk
theorem n_getr {k ci j idx t : Nat} {ks : List (Nat ⊕ Nat)} (hd : decode M.2.1 pc = .ok (.getfield idx, 3)) (hf : fOK M.1.cls idx ci j) (hkn : k < n) (hk : S.1[k]? = some (.inr (ci, ks))) (hj : ks[j]? = some (.inr t)) (kk : qAn S M (pc + 3) L (.ref t :: st) n σ cl sl n' mc ms r) : qAn S M pc L (.ref k :: st) n σ cl sl n' mc ms (if ¬ gi σ k j = 0 then r else none) := by
  by_cases h : gi σ k j = 0
  · rw [if_neg (fun z => z h)]; exact n_none
  · rw [if_pos h]
    exact n_getV hd hf hkn hk hj (fun ad => by show (if gi σ k j = 0 then Value.null else .ref (ad t)) = _; rw [if_neg h]; rfl) kk
theorem dE_row {ad : Nat → Nat} {dA : FieldType → ClassId} {σ : qMem} {k N : Nat} {ts : List Nat} {ty : FieldType} {f : Nat → Int32} (hty : ∀ τ : qMem, cB ad τ k ts ty = .inl (τ.1 k)) : dE ad dA (sr σ k f) k (.inl (ty, N, ts)) = .inl (dA ty, N, .inl f) := by
  show Sum.inl (dA ty, N, cB ad (sr σ k f) k ts ty) = _
  rw [hty, sr_at]
theorem n_iast {k N : Nat} {i x : Int32} (hd : decode M.2.1 pc = .ok (.iastore, 1)) (hkn : k < n) (hk : S.1[k]? = some (.inl (.int, N, []))) (hi : ck i N = true) (kk : qAn S M (pc + 1) L st n (si σ k i.toNatClampNeg x) cl sl n' mc ms r) : qAn S M pc L (.int x :: .int i :: .ref k :: st) n σ cl sl n' mc ms r := by
  intro hz τ hr
  obtain ⟨g1, g2⟩ := kk (hz.sr hkn) τ hr
  refine ⟨g1, fun p l e s m args below meth c D ad dA b0 hF H locs ls hP hsz hS hl => ?_⟩
  refine va_iast hF.1 hF.2.1 hF.2.2.2.2.2.2.2.1 hP (dW_D hF.2.2.2.2.2.2.2.2.1) hS k 0 (dW_at hkn hk) rfl (ck_in hi) hd (fun H1 locs1 hP1 _ hS1 => ?_)
  refine g2 p l e s m args below meth c D ad dA b0 hF H1 locs1 ls ?_ hsz hS1 hl
  rw [show dW S ad dA (si σ k i.toNatClampNeg x) n = _ from dW_set hkn hk sr_ne1 sr_ne2]
  unfold si
  rw [dE_row (fun _ => rfl)]
  exact hP1
theorem n_bast {k N : Nat} {i x : Int32} (hd : decode M.2.1 pc = .ok (.bastore, 1)) (hkn : k < n) (hk : S.1[k]? = some (.inl (.byte, N, []))) (hi : ck i N = true) (kk : qAn S M (pc + 1) L st n (si σ k i.toNatClampNeg (vp_nar .byte x)) cl sl n' mc ms r) : qAn S M pc L (.int x :: .int i :: .ref k :: st) n σ cl sl n' mc ms r := by
  intro hz τ hr
  obtain ⟨g1, g2⟩ := kk (hz.sr hkn) τ hr
  refine ⟨g1, fun p l e s m args below meth c D ad dA b0 hF H locs ls hP hsz hS hl => ?_⟩
  refine va_bast hF.1 hF.2.1 hF.2.2.2.2.2.2.2.1 hP (dW_D hF.2.2.2.2.2.2.2.2.1) hS k 3 (dW_at hkn hk) rfl (ck_in hi) hd (fun H1 locs1 hP1 _ hS1 => ?_)
  refine g2 p l e s m args below meth c D ad dA b0 hF H1 locs1 ls ?_ hsz hS1 hl
  rw [show dW S ad dA (si σ k i.toNatClampNeg (vp_nar .byte x)) n = _ from dW_set hkn hk sr_ne1 sr_ne2]
  unfold si
  rw [dE_row (fun _ => rfl)]
  exact hP1
theorem n_aast {k N t t0 j ci : Nat} {C : String} {ts : List Nat} {ks : List (Nat ⊕ Nat)} {i : Int32} (hd : decode M.2.1 pc = .ok (.aastore, 1)) (hkn : k < n) (hk : S.1[k]? = some (.inl (.object C, N, ts))) (htn : t < n) (ht : S.1[t]? = some (.inr (ci, ks))) (hC : (vwCl[ci]?).map (fun q => q.1) = some C) (h0 : ∀ dA, (qtys dA)[t0]? = some (dA (.object C), .object C)) (hi : ck i N = true) (hj : i.toNatClampNeg = j) (hts : ts[j]? = some t) (kk : qAn S M (pc + 1) L st n (si σ k j 1) cl sl n' mc ms r) : qAn S M pc L (.ref t :: .int i :: .ref k :: st) n σ cl sl n' mc ms r := by
  intro hz τ hr
  obtain ⟨g1, g2⟩ := kk (hz.sr hkn) τ hr
  refine ⟨g1, fun p l e s m args below meth c D ad dA b0 hF H locs ls hP hsz hS hl => ?_⟩
  obtain ⟨q, hq, rfl⟩ := Option.map_eq_some_iff.mp hC
  refine va_astq (f := fun j => if gi σ k j = 0 then none else (ts[j]?).map ad) hF.1 hF.2.1 hF.2.2.2.2.2.2.2.1 hP (dW_D hF.2.2.2.2.2.2.2.2.1) hS k t0 t ci (dW_at hkn hk) (h0 dA) (dW_at htn ht) hq (ck_in hi) hd (fun H1 locs1 hP1 _ hS1 => ?_)
  refine g2 p l e s m args below meth c D ad dA b0 hF H1 locs1 ls ?_ hsz hS1 hl
  rw [show dW S ad dA (si σ k j 1) n = _ from dW_set hkn hk sr_ne1 sr_ne2]
  have e1 : dE ad dA (si σ k j 1) k (.inl (.object q.1, N, ts)) = .inl (dA (.object q.1), N, .inr (.inr (.inr (.inr (va_up (fun j => if gi σ k j = 0 then none else (ts[j]?).map ad) i.toNatClampNeg (some (ad t))))))) := by
    refine congrArg (fun z => Sum.inl (dA (.object q.1), N, Sum.inr (Sum.inr (Sum.inr (Sum.inr z))))) ?_
    funext z
    rw [hj]
    by_cases hzj : z = j
    · subst hzj
      rw [va_up_self, gi_si_eq, hts]
      rfl
    · show _ = if z = j then _ else _
      rw [if_neg hzj, gi_si_j hzj]
  rw [e1]
  exact hP1
theorem n_gst (j : Nat) {idx : Nat} {nm : String} (hS2 : S.2 = true) (hd : decode M.2.1 pc = .ok (.getstatic idx, 3)) (hl0 : Cond.fieldLinkNest M.1.cls idx RX11 nm "[I" RX11 ∈ nws) (hz0 : ∀ ad A U, Xc ad A U → va_Z RX11 nm "[I" (.ref (ad j)) A U U.heap) (k : qAn S M (pc + 3) L (.ref j :: st) n σ cl sl n' mc ms r) : qAn S M pc L st n σ cl sl n' mc ms r := by
  intro hz τ hr
  obtain ⟨g1, g2⟩ := k hz τ hr
  refine ⟨g1, fun p l e s m args below meth c D ad dA b0 hF H locs ls hP hsz hS hl => ?_⟩
  exact va_getsN hF.1 hF.2.1 (hz0 ad _ s (hF.2.2.2.2.2.2.2.2.2.2.2.1 hS2)) hS hF.2.2.2.1 (va_Nw.use rfl (hF.2.2.2.2.2.2.2.2.2.1 _ hl0)) (fun _ h9 => h9) hd (g2 p l e s m args below meth c D ad dA b0 hF H locs ls hP hsz hS hl)
theorem n_slen (j : Nat) (f : List Int32) (hS2 : S.2 = true) (hd : decode M.2.1 pc = .ok (.arraylength, 1)) (hT : ∀ ad A U, Xc ad A U → va_T .int (ad j) 6 (fun i => .int (f.getD i 0)) A U U.heap) (k : qAn S M (pc + 1) L (.int 6 :: st) n σ cl sl n' mc ms r) : qAn S M pc L (.ref j :: st) n σ cl sl n' mc ms r := by
  intro hz τ hr
  obtain ⟨g1, g2⟩ := k hz τ hr
  refine ⟨g1, fun p l e s m args below meth c D ad dA b0 hF H locs ls hP hsz hS hl => ?_⟩
  exact va_tlen hF.1 hF.2.1 (hT ad _ s (hF.2.2.2.2.2.2.2.2.2.2.2.1 hS2)) hS (v := 6) (by decide) hd (g2 p l e s m args below meth c D ad dA b0 hF H locs ls hP hsz hS hl)
theorem n_alen {k0 N t0 : Nat} {ty : FieldType} {ts : List Nat} {v : Int32} (hd : decode M.2.1 pc = .ok (.arraylength, 1)) (hkn : k0 < n) (hk : S.1[k0]? = some (.inl (ty, N, ts))) (ht : ∀ dA, (qtys dA)[t0]? = some (dA ty, ty)) (hv : Int32.ofNat N = v) (k : qAn S M (pc + 1) L (.int v :: st) n σ cl sl n' mc ms r) : qAn S M pc L (.ref k0 :: st) n σ cl sl n' mc ms r := by
  intro hz τ hr
  obtain ⟨g1, g2⟩ := k hz τ hr
  refine ⟨g1, fun p l e s m args below meth c D ad dA b0 hF H locs ls hP hsz hS hl => ?_⟩
  exact va_alen hF.1 hF.2.1 hF.2.2.2.2.2.2.2.1 hP k0 t0 (dW_at hkn hk) (ht dA) (v := v) hv hd (g2 p l e s m args below meth c D ad dA b0 hF H locs ls hP hsz hS hl)
theorem n_vret (hd : decode M.2.1 pc = .ok (.return_, 1)) (hr : M.2.2.2.1 = none) : qAn S M pc L [] n σ mc ms n mc ms (some σ) := by
  intro hz τ hτ
  cases hτ
  refine ⟨hz, fun p l e s m args below meth c D ad dA b0 hF H locs ls hP hsz hS hl => ?_⟩
  exact W.vret hF.1 hF.2.1 (hF.2.2.2.2.2.1.trans hr) (fun t ht _ => ⟨⟨rfl, by rw [ht]; exact hP⟩, hS.F ht⟩) hS.2.2 hd hF.2.2.2.2.2.2.1
theorem n_run {p : Program} {l : Launch} {e : Env} {R : Room} {s : State} {m : MethodId} {args : Array Value} {below : List Frame} {meth : Method} {c : Code} {H : Heap} {locs : List Loc} {Q : State → Prop} {ls : Array Slot} {stk rest : List Value} {D : va_G} {ad : Nat → Nat} {dA : FieldType → ClassId} {ρ0 : qMem} {a0 : Array Value} {b0 n1 mc1 ms1 : Nat}
    (hr : va_Run p l e R s m args below meth c H locs cl sl mc1 ms1 (F0 m pc ls stk) rest (qQn S D ad dA b0 n1 (ρv ρ0) a0) (fun q => b0 ≤ q)) (hS : va_S (fun q => b0 ≤ q) s.heap H locs)
    (kk : ∀ (H1 : Heap) (locs1 : List Loc), va_P D vwCl (dW S ad dA ρ0 n1) H1 → va_S (fun q => b0 ≤ q) s.heap H1 locs1 → W p l e R s m args below meth c H1 locs1 (cl + mc1) (sl + ms1) Q (F0 m (pc + 3) ls rest)) : W p l e R s m args below meth c H locs cl sl Q (F0 m pc ls stk) := by
  intro T hT X
  obtain ⟨v, st₀, t, T', L, h0, X', hL, e1, e2, ⟨⟨hv, hp⟩, hz, hk⟩, st⟩ := hr T hT X
  cases hv
  rw [h0] at hz hk
  obtain ⟨t2, a1, b1⟩ := kk T'.heap (locs ++ L) (by rw [e1]; exact hp)
    ⟨Nat.le_trans hS.1 (by rw [e1]; exact hz), fun q h1 h2 => by rw [e1, hk q (Nat.lt_of_lt_of_le h1 hS.1) h2]; exact hS.2.1 q h1 h2, fun q hq => by
      rcases List.mem_append.mp hq with h | h
      · exact hS.2.2 q h
      · exact hL q h⟩ T' rfl X'
  exact ⟨t2, st t2 a1, b1⟩
theorem qPn_blind {D : va_G} {ad : Nat → Nat} {dA : FieldType → ClassId} {b0 : Nat} {av : List Value} : FrameBlind (qPn S D ad dA b0 av n σ) := by
  intro a U g mk q
  obtain ⟨q0, qP, qz, qK, qN, qO, qX⟩ := q
  exact ⟨q0, qP, qz, va_K.moved (u := U) (U := U.calling g mk a) (Vm.Alike.refl U.vm) qK, fun w hw => va_Nw.same (u := U) (U := U.calling g mk a) (nws_tab hw) rfl (qN w hw), fun C hC => va_AO.moved (u := U) (U := U.calling g mk a) (Vm.Alike.refl U.vm) (qO C hC), fun h => (qX h).blind g mk a⟩
def sI (own : String) (idx : Nat) (M : qMt) (n : Nat) : Prop := mOK M ∧ pN M n ∧ M.1.name = "<init>" ∧ M.2.2.2.1 = none ∧ Cond.instanceMethod M.1 ∈ gws ∧ (Cond.methodLink own idx M.1 ∈ gws ∨ ∃ host, Cond.methodLinkNest own idx M.1 host ∈ nws)
theorem n_call (M' : qMt) {k0 idx np n1 mc1 ms1 : Nat} (as : List Value) {stk : List Value} {r0 : Option qMem} {K : qMem → Option qMem} (hd : decode M.2.1 pc = .ok (.invokespecial idx, 3)) (hs : sI M.1.cls idx M' np) (hR : rR M' M) (hst : stk = as.reverse ++ .ref k0 :: st) (hnp : as.length = np) (hw : (st.map fun v => v.category).sum ≤ 8) (hnl : n ≤ S.1.length) (hn1 : n1 = n + mc1) (hb : cl + mc1 ≤ mc ∧ sl + ms1 ≤ ms) (hM : qMn S M' (.ref k0 :: as) n σ n1 mc1 ms1 r0) (kk : ∀ b, qAn S M (pc + 3) L st n1 b (cl + mc1) (sl + ms1) n' mc ms (K b)) : qAn S M pc L stk n σ cl sl n' mc ms (r0.bind K) := by
  subst hst
  intro hz τ hτ
  cases hr : r0 with
  | none => rw [hr] at hτ; cases hτ
  | some b =>
    rw [hr] at hτ
    obtain ⟨f1, f2⟩ := hM hz b hr
    obtain ⟨g1, g2⟩ := kk b f1 τ hτ
    refine ⟨g1, fun p l e s m args below meth c D ad dA b0 hF H locs ls hP hsz hS hl => ?_⟩
    refine W.sz (fun hu => ?_)
    have hsz1 := dW_size hF.2.2.2.2.2.2.2.2.1 hnl hP hsz hS hF.2.2.2.2.2.2.2.2.2.2.2.2.2 hu
    obtain ⟨hx, hbb, hml, hown, hts, hret, hlk, hK, had, hN, hO, hX, hnm, hb0⟩ := hF
    obtain ⟨hm, hp, hin, hrn, hins, hlink⟩ := hs
    have hGood := gws_ws hm
    have hstk : (F0 m pc ls ((as.reverse ++ .ref k0 :: st).map (cV ad))).stack = (as.map (cV ad)).reverse ++ .ref (ad k0) :: st.map (cV ad) := by
      show (as.reverse ++ .ref k0 :: st).map (cV ad) = _
      rw [List.map_append, List.map_reverse]; rfl
    have hpre : PreS s H (qPn S D ad dA b0 (.ref k0 :: as) n σ) (.ref (ad k0) :: as.map (cV ad)) := ⟨qPn_blind, fun U hU hW => ⟨rfl, by rw [hU]; exact hP, by rw [hU]; exact hsz1, va_K.moved hW.alike hK, fun w hw => nws_warm hw hW (hN w hw), fun C hC => va_AO.moved hW.alike (hO C hC), fun h => (hX h).go hW (fun q h1 h2 => by rw [hU]; exact hS.2.1 q h1 h2)⟩⟩
    have hroom : 2 * (F0 m pc ls ((as.reverse ++ .ref k0 :: st).map (cV ad))).monitorRoom + ((st.map (cV ad)).map fun v => v.category).sum ≤ 8 := lv_room (by rw [q_cat]; exact hw)
    have fin := fun H1 locs1 hP1 hS1 => g2 p l e s m args below meth c D ad dA b0 ⟨hx, hbb, hml, hown, hts, hret, hlk, hK, had, hN, hO, hX, hnm, hb0⟩ H1 locs1 ls hP1 (by rw [hn1]; omega) hS1 hl
    have hM' := f2 l D ad dA b0 had
    rcases hlink with hlink | ⟨host, hlink⟩
    · exact n_run (va_runI (bytes := M'.2.1) (maxL := M'.2.2.1) (n := np) (As := as.map (cV ad)) (rest := st.map (cV ad)) (b := ad k0) ⟨hx, hbb, hml, hown, hts⟩ hM' ⟨callB_of np hts hGood (by unfold wsM; rw [hrn]) rfl rfl (hts _ hm.2.1) (hts _ hlink) ⟨hm.2.2.1.1, hm.2.2.1.2, hp⟩ hR, hin, hts _ hins⟩ hpre rfl (by rw [List.length_map]; exact hnp) hl.1 hstk hroom hd hb) hS fin
    · exact n_run (va_runIN (bytes := M'.2.1) (maxL := M'.2.2.1) (n := np) (host := host) (As := as.map (cV ad)) (rest := st.map (cV ad)) (b := ad k0) ⟨hx, hbb, hml, hown, hts⟩ hM' ⟨va_cnB np hts hGood (by unfold wsM; rw [hrn]) rfl rfl (hN _ hlink) (hts _ hm.2.1) ⟨hm.2.2.1.1, hm.2.2.1.2, hp⟩ hR, hin, hts _ hins⟩ hpre rfl (by rw [List.length_map]; exact hnp) hl.1 hstk hroom hd hb) hS fin
theorem n_cast {n2 cl2 sl2 : Nat} (h1 : n = n2) (h2 : cl = cl2) (h3 : sl = sl2) (k : qAn S M pc L st n2 σ cl2 sl2 n' mc ms r) : qAn S M pc L st n σ cl sl n' mc ms r := by
  subst h1; subst h2; subst h3; exact k
theorem lt_len {α : Type} {l : List α} {i : Nat} {x : α} (h : l[i]? = some x) : i < l.length := (List.getElem?_eq_some_iff.mp h).1
theorem n_callS (M' : qMt) {idx np : Nat} (as : List Value) {stk : List Value} {r0 : Option qMem} {K : qMem → Option qMem} (hd : decode M.2.1 pc = .ok (.invokestatic idx, 3)) (hs : sS M.1.cls idx M' np) (hR : rR M' M) (hst : stk = as.reverse ++ st) (hnp : as.length = np) (hw : (st.map fun v => v.category).sum ≤ 8) (hnl : n ≤ S.1.length) (hb : cl ≤ mc ∧ sl ≤ ms) (hM : qMn S M' as n σ n 0 0 r0) (kk : ∀ b, qAn S M (pc + 3) L st n b cl sl n' mc ms (K b)) : qAn S M pc L stk n σ cl sl n' mc ms (r0.bind K) := by
  subst hst
  intro hz τ hτ
  cases hr : r0 with
  | none => rw [hr] at hτ; cases hτ
  | some b =>
    rw [hr] at hτ
    obtain ⟨f1, f2⟩ := hM hz b hr
    obtain ⟨g1, g2⟩ := kk b f1 τ hτ
    refine ⟨g1, fun p l e s m args below meth c D ad dA b0 hF H locs ls hP hsz hS hl => ?_⟩
    refine W.sz (fun hu => ?_)
    have hsz1 := dW_size hF.2.2.2.2.2.2.2.2.1 hnl hP hsz hS hF.2.2.2.2.2.2.2.2.2.2.2.2.2 hu
    obtain ⟨hx, hbb, hml, hown, hts, hret, hlk, hK, had, hN, hO, hX, hnm, hb0⟩ := hF
    obtain ⟨hm, hp, hsta, hlink⟩ := hs
    have hGood := gws_ws hm
    have hstk : (F0 m pc ls ((as.reverse ++ st).map (cV ad))).stack = (as.map (cV ad)).reverse ++ st.map (cV ad) := by
      show (as.reverse ++ st).map (cV ad) = _
      rw [List.map_append, List.map_reverse]
    have hpre : PreS s H (qPn S D ad dA b0 as n σ) (as.map (cV ad)) := ⟨qPn_blind, fun U hU hW => ⟨rfl, by rw [hU]; exact hP, by rw [hU]; exact hsz1, va_K.moved hW.alike hK, fun w hw => nws_warm hw hW (hN w hw), fun C hC => va_AO.moved hW.alike (hO C hC), fun h => (hX h).go hW (fun q h1 h2 => by rw [hU]; exact hS.2.1 q h1 h2)⟩⟩
    have hroom : 2 * (F0 m pc ls ((as.reverse ++ st).map (cV ad))).monitorRoom + ((st.map (cV ad)).map fun v => v.category).sum ≤ 8 := lv_room (by rw [q_cat]; exact hw)
    have fin := fun H1 locs1 hP1 hS1 => g2 p l e s m args below meth c D ad dA b0 ⟨hx, hbb, hml, hown, hts, hret, hlk, hK, had, hN, hO, hX, hnm, hb0⟩ H1 locs1 ls hP1 hsz hS1 hl
    have hM' := f2 l D ad dA b0 had
    rcases hlink with hlink | ⟨host, hlink⟩
    · exact n_run (va_runS (bytes := M'.2.1) (maxL := M'.2.2.1) (ret := M'.2.2.2.1) (n := np) (As := as.map (cV ad)) (rest := st.map (cV ad)) ⟨hx, hbb, hml, hown, hts⟩ hM' ⟨callB_of np hts hGood rfl rfl rfl (hts _ hm.2.1) (hts _ hlink) ⟨hm.2.2.1.1, hm.2.2.1.2, hp⟩ hR, hts _ hsta⟩ hpre rfl (by rw [List.length_map]; exact hnp) hl.1 hstk hroom hd hb) hS fin
    · exact n_run (va_runSN (bytes := M'.2.1) (maxL := M'.2.2.1) (ret := M'.2.2.2.1) (n := np) (host := host) (As := as.map (cV ad)) (rest := st.map (cV ad)) ⟨hx, hbb, hml, hown, hts⟩ hM' ⟨va_cnB np hts hGood rfl rfl rfl (hN _ hlink) (hts _ hm.2.1) ⟨hm.2.2.1.1, hm.2.2.1.2, hp⟩ hR, hts _ hsta, trivial⟩ hpre rfl (by rw [List.length_map]; exact hnp) hl.1 hstk hroom hd hb) hS fin
/-- ints copied out of a static array -/
theorem n_copyT (tb : Nat) (f : List Int32) {k1 N idx : Nat} {n0 : Int32} (hS2 : S.2 = true) (hd : decode M.2.1 pc = .ok (.invokestatic idx, 3)) (hlink : Cond.methodLink M.1.cls idx arraycopyName ∈ gws) (hnat : Cond.native arraycopyName ∈ gws) (hstat : Cond.static arraycopyName ∈ gws) (hini : Cond.initialized "java/lang/System" ∈ gws) (hT : ∀ ad A U, Xc ad A U → va_T .int (ad tb) 6 (fun i => .int (f.getD i 0)) A U U.heap) (hkn : k1 < n) (hk : S.1[k1]? = some (.inl (.int, N, []))) (h3 : ¬ n0 < 0) (h4 : n0.toNatClampNeg ≤ 6) (h5 : n0.toNatClampNeg ≤ N) (hR : 1 ≤ M.2.2.2.2.1 ∧ (st.map fun v => v.category).sum + (nativeFrameWords "java/lang/System" "arraycopy" 5 + 11) ≤ M.2.2.2.2.2) (kk : qAn S M (pc + 3) L st n (sr σ k1 (va_cpy (fun i => f.getD i 0) (σ.1 k1) 0 0 n0.toNatClampNeg)) cl sl n' mc ms r) : qAn S M pc L (.int n0 :: .int 0 :: .ref k1 :: .int 0 :: .ref tb :: st) n σ cl sl n' mc ms r := by
  have nn : ∀ z : Int32, ¬ z < 0 → z.toInt = (z.toNatClampNeg : Int) := by
    intro z hz
    have hz0 : (0 : Int) ≤ z.toInt := by simpa using Int32.le_iff_toInt_le.mp (Int32.not_lt.mp hz)
    show z.toInt = ((z.toInt.toNat : Nat) : Int)
    omega
  intro hz τ hr
  obtain ⟨g1, g2⟩ := kk (hz.sr hkn) τ hr
  refine ⟨g1, fun p l e s m args below meth c D ad dA b0 hF H locs ls hP hsz hS hl => ?_⟩
  intro T hTT X
  have hD := dW_D (dA := dA) (σ := σ) (n := n) hF.2.2.2.2.2.2.2.2.1
  have ha1 := dW_at (ad := ad) (dA := dA) (σ := σ) hkn hk
  obtain ⟨scr, hs1, hs2, hs3, hs4, -, hs5, hs7⟩ := hT ad _ s (hF.2.2.2.2.2.2.2.2.2.2.2.1 hS2)
  have hc0 : H[ad tb]? = some scr := by rw [hS.2.1 (ad tb) (Array.getElem?_eq_some_iff.mp hs1).1 hs7]; exact hs1
  have hc1 : H[ad k1]? = some (vp_cell (dA .int) (N, .inl (σ.1 k1))) := hP k1 _ ha1
  obtain ⟨hs6, q0, hq0, cm0, hkk0⟩ := hs2
  obtain ⟨-, q1, hq1, cm1, hkk1⟩ := (hF.2.2.2.2.2.2.2.1.2 0 _ rfl).1 N (fun j => .int (σ.1 k1 j))
  have hml : c.maxLocals = ls.size := hF.2.2.1.trans hl.1.symm
  obtain ⟨vm', X', step⟩ := X.arraycopy hF.1 hF.2.2.2.1 (hF.2.2.2.2.1 _ hlink) (hF.2.2.2.2.1 _ hnat) (hF.2.2.2.2.1 _ hstat) (hF.2.2.2.2.1 _ hini) (src := ad tb) (dst := ad k1) (cs := scr) (cd := vp_cell (dA .int) (N, .inl (σ.1 k1))) (srcPos := 0) (destPos := 0) (n := n0) (by rw [hTT]; exact hc0) (by rw [hTT]; exact hc1)
    hs6 (fun _ h => by cases h) hs3 (fun h => by cases h) hq0 hq1 hkk0 hkk1 (by simp [refKind]) (by decide) (by decide) h3
    (by rw [nn n0 h3]; simp; omega)
    (by rw [nn n0 h3]; show ¬ _ > ((arrV (dA .int) N (fun j => .int (σ.1 k1 j))).slots.size : Int); rw [arrV_size]; simp; omega)
    (fun vm₁ _ i hi => by
      have e : scr.slots.getD ((0 : Int32).toNatClampNeg + i) .null = .int (f.getD i 0) := by
        rw [show (0 : Int32).toNatClampNeg + i = i from Nat.zero_add i, Array.getD_eq_getD_getElem?, hs5 _ (by omega)]
        rfl
      refine ⟨?_, ?_⟩
      · rw [e]; rfl
      · rw [e]; exact trivial)
    (g := F0 m pc ls (.int n0 :: .int 0 :: .ref (ad k1) :: .int 0 :: .ref (ad tb) :: st.map (cV ad))) rfl (by rw [hml]) (rest := st.map (cV ad)) rfl (by rw [hF.2.1]; exact hd) hR.1 (by show 2 * 0 + _ + _ ≤ _; rw [q_cat]; have := hR.2; show 2 * 0 + _ + _ ≤ M.2.2.2.2.2; omega)
  have e1 : copied scr (vp_cell (dA .int) (N, .inl (σ.1 k1))) 0 0 n0 = vp_cell (dA .int) (N, .inl (va_cpy (fun i => f.getD i 0) (σ.1 k1) 0 0 n0.toNatClampNeg)) := va_copiedX (sp := 0) (dp := 0) (fun z => .int z) scr (dA .int) (fun i => f.getD i 0) (σ.1 k1) hs5 (by omega)
  rw [e1] at X' step
  have hla : ad k1 < H.size := (Array.getElem?_eq_some_iff.mp hc1).1
  have hheap : ((T.setVm vm').setCell (ad k1) (vp_cell (dA .int) (N, .inl (va_cpy (fun i => f.getD i 0) (σ.1 k1) 0 0 n0.toNatClampNeg)))).heap = H.setIfInBounds (ad k1) (vp_cell (dA .int) (N, .inl (va_cpy (fun i => f.getD i 0) (σ.1 k1) 0 0 n0.toNatClampNeg))) := by rw [← hTT]; rfl
  have oq : ∀ q : Nat, q ≠ ad k1 → (H.setIfInBounds (ad k1) (vp_cell (dA .int) (N, .inl (va_cpy (fun i => f.getD i 0) (σ.1 k1) 0 0 n0.toNatClampNeg))))[q]? = H[q]? := fun q hq => by simp [Array.getElem?_setIfInBounds, Ne.symm hq]
  obtain ⟨t, a1, b1⟩ := g2 p l e s m args below meth c D ad dA b0 hF _ _ ls (by
      rw [dW_set hkn hk sr_ne1 sr_ne2, dE_row (fun _ => rfl)]
      exact hP.set hD ha1 (show (H.setIfInBounds (ad k1) _)[ad k1]? = some _ by simp [Array.getElem?_setIfInBounds, hla]) oq) hsz ⟨by simp; exact hS.1, fun q f1 f2 => by
      rw [oq q (fun e => f2 (by rw [e]; exact hD.2 k1 _ ha1))]
      exact hS.2.1 q f1 f2, fun q hq => by
      rcases List.mem_append.mp hq with h | h
      · exact hS.2.2 q h
      · obtain ⟨z, -, hzz⟩ := List.mem_map.mp h
        rw [← hzz]
        exact hD.2 k1 _ ha1⟩ hl _ hheap X'
  exact ⟨t, step t a1, b1⟩
end QN

