/-! the judgement qAt: code from a place on, an abstract frame and a memory, what the method answers -/
def gws : List Cond := lw_tbl.filter goodWord
def isNw : Cond → Bool
  | .fieldLinkNest _ _ _ _ _ _ => true
  | .methodLinkNest _ _ _ _ => true
  | _ => false
def nws : List Cond := lw_tbl.filter isNw
theorem tb_in {w : Cond} (h : w ∈ tables_1) : w ∈ lw_tbl := List.mem_append_right _ h
theorem g_1 {w : Cond} (i : Nat) (h : tables_1_1[i]? = some w) (hg : goodWord w = true) : w ∈ gws := List.mem_filter.mpr ⟨tb_in (List.mem_append_left _ (List.mem_of_getElem? h)), hg⟩
theorem n_1 {w : Cond} (i : Nat) (h : tables_1_1[i]? = some w) (hg : isNw w = true) : w ∈ nws := List.mem_filter.mpr ⟨tb_in (List.mem_append_left _ (List.mem_of_getElem? h)), hg⟩
theorem g_2 {w : Cond} (i : Nat) (h : tables_1_2[i]? = some w) (hg : goodWord w = true) : w ∈ gws := List.mem_filter.mpr ⟨tb_in (List.mem_append_right _ (List.mem_append_left _ (List.mem_of_getElem? h))), hg⟩
theorem n_2 {w : Cond} (i : Nat) (h : tables_1_2[i]? = some w) (hg : isNw w = true) : w ∈ nws := List.mem_filter.mpr ⟨tb_in (List.mem_append_right _ (List.mem_append_left _ (List.mem_of_getElem? h))), hg⟩
theorem g_3 {w : Cond} (i : Nat) (h : tables_1_3[i]? = some w) (hg : goodWord w = true) : w ∈ gws := List.mem_filter.mpr ⟨tb_in (List.mem_append_right _ (List.mem_append_right _ (List.mem_append_left _ (List.mem_of_getElem? h)))), hg⟩
theorem n_3 {w : Cond} (i : Nat) (h : tables_1_3[i]? = some w) (hg : isNw w = true) : w ∈ nws := List.mem_filter.mpr ⟨tb_in (List.mem_append_right _ (List.mem_append_right _ (List.mem_append_left _ (List.mem_of_getElem? h)))), hg⟩
theorem g_4 {w : Cond} (i : Nat) (h : tables_1_4[i]? = some w) (hg : goodWord w = true) : w ∈ gws := List.mem_filter.mpr ⟨tb_in (List.mem_append_right _ (List.mem_append_right _ (List.mem_append_right _ (List.mem_append_left _ (List.mem_of_getElem? h))))), hg⟩
theorem n_4 {w : Cond} (i : Nat) (h : tables_1_4[i]? = some w) (hg : isNw w = true) : w ∈ nws := List.mem_filter.mpr ⟨tb_in (List.mem_append_right _ (List.mem_append_right _ (List.mem_append_right _ (List.mem_append_left _ (List.mem_of_getElem? h))))), hg⟩
theorem g_5 {w : Cond} (i : Nat) (h : tables_1_5[i]? = some w) (hg : goodWord w = true) : w ∈ gws := List.mem_filter.mpr ⟨tb_in (List.mem_append_right _ (List.mem_append_right _ (List.mem_append_right _ (List.mem_append_right _ (List.mem_append_left _ (List.mem_of_getElem? h)))))), hg⟩
theorem n_5 {w : Cond} (i : Nat) (h : tables_1_5[i]? = some w) (hg : isNw w = true) : w ∈ nws := List.mem_filter.mpr ⟨tb_in (List.mem_append_right _ (List.mem_append_right _ (List.mem_append_right _ (List.mem_append_right _ (List.mem_append_left _ (List.mem_of_getElem? h)))))), hg⟩
theorem g_6 {w : Cond} (i : Nat) (h : tables_1_6[i]? = some w) (hg : goodWord w = true) : w ∈ gws := List.mem_filter.mpr ⟨tb_in (List.mem_append_right _ (List.mem_append_right _ (List.mem_append_right _ (List.mem_append_right _ (List.mem_append_right _ (List.mem_append_left _ (List.mem_of_getElem? h))))))), hg⟩
theorem n_6 {w : Cond} (i : Nat) (h : tables_1_6[i]? = some w) (hg : isNw w = true) : w ∈ nws := List.mem_filter.mpr ⟨tb_in (List.mem_append_right _ (List.mem_append_right _ (List.mem_append_right _ (List.mem_append_right _ (List.mem_append_right _ (List.mem_append_left _ (List.mem_of_getElem? h))))))), hg⟩
theorem g_7 {w : Cond} (i : Nat) (h : tables_1_7[i]? = some w) (hg : goodWord w = true) : w ∈ gws := List.mem_filter.mpr ⟨tb_in (List.mem_append_right _ (List.mem_append_right _ (List.mem_append_right _ (List.mem_append_right _ (List.mem_append_right _ (List.mem_append_right _ (List.mem_append_left _ (List.mem_of_getElem? h)))))))), hg⟩
theorem n_7 {w : Cond} (i : Nat) (h : tables_1_7[i]? = some w) (hg : isNw w = true) : w ∈ nws := List.mem_filter.mpr ⟨tb_in (List.mem_append_right _ (List.mem_append_right _ (List.mem_append_right _ (List.mem_append_right _ (List.mem_append_right _ (List.mem_append_right _ (List.mem_append_left _ (List.mem_of_getElem? h)))))))), hg⟩
theorem g_8 {w : Cond} (i : Nat) (h : tables_1_8[i]? = some w) (hg : goodWord w = true) : w ∈ gws := List.mem_filter.mpr ⟨tb_in (List.mem_append_right _ (List.mem_append_right _ (List.mem_append_right _ (List.mem_append_right _ (List.mem_append_right _ (List.mem_append_right _ (List.mem_append_right _ (List.mem_append_left _ (List.mem_of_getElem? h))))))))), hg⟩
theorem n_8 {w : Cond} (i : Nat) (h : tables_1_8[i]? = some w) (hg : isNw w = true) : w ∈ nws := List.mem_filter.mpr ⟨tb_in (List.mem_append_right _ (List.mem_append_right _ (List.mem_append_right _ (List.mem_append_right _ (List.mem_append_right _ (List.mem_append_right _ (List.mem_append_right _ (List.mem_append_left _ (List.mem_of_getElem? h))))))))), hg⟩
theorem g_9 {w : Cond} (i : Nat) (h : tables_1_9[i]? = some w) (hg : goodWord w = true) : w ∈ gws := List.mem_filter.mpr ⟨tb_in (List.mem_append_right _ (List.mem_append_right _ (List.mem_append_right _ (List.mem_append_right _ (List.mem_append_right _ (List.mem_append_right _ (List.mem_append_right _ (List.mem_append_right _ (List.mem_of_getElem? h))))))))), hg⟩
theorem n_9 {w : Cond} (i : Nat) (h : tables_1_9[i]? = some w) (hg : isNw w = true) : w ∈ nws := List.mem_filter.mpr ⟨tb_in (List.mem_append_right _ (List.mem_append_right _ (List.mem_append_right _ (List.mem_append_right _ (List.mem_append_right _ (List.mem_append_right _ (List.mem_append_right _ (List.mem_append_right _ (List.mem_of_getElem? h))))))))), hg⟩
theorem g_0 {w : Cond} (i : Nat) (h : (k2_sels lw_privs)[i]? = some w) (hg : goodWord w = true) : w ∈ gws := List.mem_filter.mpr ⟨List.mem_append_left _ (List.mem_of_getElem? h), hg⟩
theorem gws_good {w : Cond} (h : w ∈ gws) : (w.onTables && w.keeps) = true ∨ ∃ ty, w = .arrayClass ty := good_of_word (List.mem_filter.mp h).2
theorem nws_warm {w : Cond} (h : w ∈ nws) {s U : State} (hW : s.WarmedH U.vm) (hZ : va_Nw w s) : va_Nw w U := by
  have h2 := (List.mem_filter.mp h).2
  cases w <;> first | (exact va_Nw.warmF hW hZ) | (exact va_Nw.warmM hW hZ) | (exact absurd h2 (by simp [isNw]))
abbrev qMt : Type := MethodName × ByteArray × Nat × Option FieldType × Nat × Nat
def wsM (M : qMt) : List Cond := Cond.code M.1 M.2.1 M.2.2.1 M.2.2.2.1 :: gws
def rmM (M : qMt) : Room := { frames := M.2.2.2.2.1, cells := 0, slots := 0, locals := M.2.2.2.2.2 }
def mOK (M : qMt) : Prop := Cond.code M.1 M.2.1 M.2.2.1 M.2.2.2.1 ∈ gws ∧ Cond.initialized M.1.cls ∈ gws ∧ (M.1.cls ≠ "java/lang/invoke/MethodHandle" ∧ M.1.cls ≠ "java/lang/invoke/VarHandle") ∧ plainFor M.1 = true
/-- what static arrays and String constants hold -/
def tabF : List Int32 := [1, 1, 0, 5, 4, 6]
def tabL : List Int32 := [0, 0, 0, 0, 1, 0]
def tabM : List Int32 := [20, 9, 3, 9, 23, 40]
def strT : List (Nat × String) := [(70, "noise"), (76, "loss"), (78, "ear"), (87, "if"), (99, "or"), (111, "and"), (113, "not"), (135, "speed"), (137, "depth"), (139, "range"), (141, "bell"), (143, "boat")]
def strB : List (List Int32) := strT.map (fun q => q.2.toList.map (fun ch => nI ch.toNat))
def Xc (ad : Nat → Nat) (A : Nat → Prop) (U : State) : Prop :=
  (va_Z RX11 "TERM_FIRST" "[I" (.ref (ad 1000)) A U U.heap ∧ va_T .int (ad 1000) 6 (fun j => .int (tabF.getD j 0)) A U U.heap) ∧
  (va_Z RX11 "TERM_LEAST" "[I" (.ref (ad 1001)) A U U.heap ∧ va_T .int (ad 1001) 6 (fun j => .int (tabL.getD j 0)) A U U.heap) ∧
  (va_Z RX11 "TERM_MOST" "[I" (.ref (ad 1002)) A U U.heap ∧ va_T .int (ad 1002) 6 (fun j => .int (tabM.getD j 0)) A U U.heap) ∧
  (va_Z "java/lang/String" "COMPACT_STRINGS" "Z" (.int 1) A U U.heap ∧ (va_Z "jdk/internal/util/Preconditions" "SIOOBE_FORMATTER" "Ljava/util/function/BiFunction;" .null A U U.heap ∨ va_Z "jdk/internal/util/Preconditions" "SIOOBE_FORMATTER" "Ljava/util/function/BiFunction;" (.ref (ad 1050)) A U U.heap)) ∧
  vk_S 12 (strB.map List.length) strB (fun k => ad (1010 + k)) (fun k => ad (1030 + k)) A U U.heap ∧
  ∀ (i : Nat) (q : Nat × String), strT[i]? = some q → vk_R RX6 q.1 q.2 (ad (1010 + i)) U
theorem Xc.go {ad : Nat → Nat} {A : Nat → Prop} {s U : State} (h : Xc ad A s) (hW : s.WarmedH U.vm) (hq : ∀ a : Nat, a < s.heap.size → ¬ A a → U.heap[a]? = s.heap[a]?) : Xc ad A U := by
  obtain ⟨⟨z1, t1⟩, ⟨z2, t2⟩, ⟨z3, t3⟩, ⟨z4, z5⟩, k, r⟩ := h
  have hv := hW.alike
  exact ⟨⟨(z1.moved hv).kept hq, (t1.moved hv).kept hq⟩, ⟨(z2.moved hv).kept hq, (t2.moved hv).kept hq⟩, ⟨(z3.moved hv).kept hq, (t3.moved hv).kept hq⟩, ⟨(z4.moved hv).kept hq, z5.imp (fun z => (z.moved hv).kept hq) (fun z => (z.moved hv).kept hq)⟩, (k.moved hv).kept hq, fun i q hi => (r i q hi).warm hW⟩
def qEx (S : qWo) (ad : Nat → Nat) (U : State) : Prop := (∀ w ∈ nws, va_Nw w U) ∧ (S.2 = true → Xc ad (Aw S ad) U)
def qPc (S : qWo) (D : va_G) (ad : Nat → Nat) (dA : FieldType → ClassId) (av : List Value) (σ : qMem) : Array Value → State → Prop := va_Pc (av.map (cV ad)) (fun U => va_P D vwCl (cW S ad dA σ) U.heap ∧ va_K D vwCl (qtys dA) U ∧ qInj S ad ∧ qEx S ad U)
def qQc (S : qWo) (D : va_G) (ad : Nat → Nat) (dA : FieldType → ClassId) (ρ : Option Value × qMem) : Array Value → State → Outcome → State → Prop := fun _ st o t => (o = .returned (ρ.1.map (cV ad)) ∧ va_P D vwCl (cW S ad dA ρ.2) t.heap) ∧ va_F (Aw S ad) st t
/-- a method's contract: if the function r answers, so does the method -/
def qMc {α : Type} (S : qWo) (M : qMt) (ρ : α → Option Value × qMem) (av : List Value) (σ : qMem) (r : Option α) : Prop := ∀ a, r = some a → ∀ (l : Launch) (D : va_G) (ad : Nat → Nat) (dA : FieldType → ClassId), Met l M.1 (wsM M) (rmM M) (qPc S D ad dA av σ) (qQc S D ad dA (ρ a)) 0 0 (Aw S ad)
def qFx (S : qWo) (M : qMt) (p : Program) (s : State) (m : MethodId) (args : Array Value) (meth : Method) (c : Code) (D : va_G) (ad : Nat → Nat) (dA : FieldType → ClassId) : Prop := p.tables.exec = Jvm.exec ∧ c.code = M.2.1 ∧ c.maxLocals = M.2.2.1 ∧ s.vm.findClass M.1.cls = some m.cls ∧ (∀ w ∈ gws, w.before args s = true) ∧ meth.sig.returnType = M.2.2.2.1 ∧ meth.locks = false ∧ va_K D vwCl (qtys dA) s ∧ qInj S ad ∧ qEx S ad s
def qAt {α : Type} (S : qWo) (M : qMt) (ρ : α → Option Value × qMem) (pc : Nat) (L : List (Nat × Value)) (st : List Value) (σ : qMem) (r : Option α) : Prop :=
  ∀ a, r = some a → ∀ (p : Program) (l : Launch) (e : Env) (s : State) (m : MethodId) (args : Array Value) (below : List Frame) (meth : Method) (c : Code) (D : va_G) (ad : Nat → Nat) (dA : FieldType → ClassId), qFx S M p s m args meth c D ad dA →
    ∀ (H : Heap) (locs : List Loc) (ls : Array Slot), va_P D vwCl (cW S ad dA σ) H → va_S (Aw S ad) s.heap H locs → lv_has ls M.2.2.1 (cL ad L) →
      W p l e (rmM M) s m args below meth c H locs 0 0 (MQ below (qQc S D ad dA (ρ a)) args s 0 0 (Aw S ad)) (F0 m pc ls (st.map (cV ad)))
def ρi : Int32 × qMem → Option Value × qMem := fun q => (some (.int q.1), q.2)
def ρl : Int64 × qMem → Option Value × qMem := fun q => (some (.long q.1), q.2)
def ρv : qMem → Option Value × qMem := fun q => (none, q)
def ρp (σ : qMem) : Int32 → Option Value × qMem := fun q => (some (.int q), σ)
def ρq (σ : qMem) : Int64 → Option Value × qMem := fun q => (some (.long q), σ)
theorem cV_cat (ad : Nat → Nat) (v : Value) : (cV ad v).category = v.category := by cases v <;> rfl
theorem cL_args (ad : Nat → Nat) : ∀ (av : List Value) (i : Nat), lv_args i (av.map (cV ad)) = cL ad (lv_args i av)
  | [], _ => rfl
  | v :: vs, i => by
    show (i, cV ad v) :: lv_args (if (cV ad v).category = 2 then i + 2 else i + 1) (vs.map (cV ad)) = (i, cV ad v) :: cL ad (lv_args (if v.category = 2 then i + 2 else i + 1) vs)
    rw [cV_cat, cL_args ad vs]
theorem cL_sl (ad : Nat → Nat) (av : List Value) : (lg_sl (av.map (cV ad))).length = (lg_sl av).length := by
  induction av with
  | nil => rfl
  | cons v vs ih =>
    simp only [lg_sl, List.map_cons, List.flatMap_cons, List.length_append] at ih ⊢
    rw [ih, cV_cat]
    cases v <;> simp [Value.category]
/-- a contract out of the judgement at the entry -/
theorem qMc_of {α : Type} {S : qWo} {M : qMt} {ρ : α → Option Value × qMem} {av : List Value} {σ : qMem} {r : Option α} (hM : mOK M) (hn : (lg_sl av).length ≤ M.2.2.1) (h : qAt S M ρ 0 (lv_args 0 av) [] σ r) : qMc S M ρ av σ r := by
  intro a ha l D ad dA
  refine va_MetF (cc := M.2.1) (maxL := M.2.2.1) (ret := M.2.2.2.1) hM.2.2.2 rfl ?_
  intro p e s m args below meth c s₁ B hml hv
  obtain ⟨rfl, hP, hK, hI, hE⟩ := hv
  have hts := atoms_spec (ws := wsM M) B.pre
  have hl := lv_entry (av.map (cV ad)) (n := M.2.2.1) (by rw [cL_sl]; exact hn)
  rw [lg_entry_eq]
  generalize (lg_sl (av.map (cV ad)) ++ List.replicate (M.2.2.1 - (lg_sl (av.map (cV ad))).length) Slot.unset).toArray = ls at hl ⊢
  rw [cL_args] at hl
  exact h a ha p l e s m _ below meth c D ad dA ⟨B.exec, B.bytes, hml, findClass_of_methodNamed B.named, fun w hw => hts w (List.mem_cons_of_mem _ hw), B.returns, B.notSynchronized, hK, hI, hE⟩ s.heap [] ls hP va_S.rf hl
section QA
variable {α : Type} {S : qWo} {M : qMt} {ρ : α → Option Value × qMem} {pc : Nat} {L : List (Nat × Value)} {st : List Value} {σ : qMem} {r : Option α}
theorem q_none : qAt S M ρ pc L st σ (none : Option α) := fun _ h => by cases h
theorem q_lv {ad : Nat → Nat} {ls : Array Slot} {nL : Nat} (h : lv_has ls nL (cL ad L)) (k : Nat) {i : Nat} {v : Value} (hk : L[k]? = some (i, v)) : ls[i]? = some (.val (cV ad v)) := lv_at h k (by unfold cL; rw [List.getElem?_map, hk]; rfl)
theorem q_pick (ad : Nat → Nat) (L : List (Nat × Value)) (ks : List Nat) : lv_pick (cL ad L) ks = cL ad (lv_pick L ks) := by
  unfold lv_pick cL
  induction ks with
  | nil => rfl
  | cons i ks ih =>
    rw [List.filterMap_cons, List.filterMap_cons, List.getElem?_map]
    cases L[i]? with
    | none => exact ih
    | some x => exact congrArg (List.cons _) ih
/-- fewer locals -/
theorem q_sub {L' : List (Nat × Value)} (ks : List Nat) (hl : lv_pick L ks = L') (k : qAt S M ρ pc L' st σ r) : qAt S M ρ pc L st σ r := by
  intro a ha p l e s m args below meth c D ad dA hF H locs ls hP hS h
  subst hl
  exact k a ha p l e s m args below meth c D ad dA hF H locs ls hP hS (lv_sub h ks (q_pick ad L ks))
theorem q_cLf {ad : Nat → Nat} (i : Nat) : (cL ad L).filter (fun q => !(q.1 == i) && !(q.1 + 1 == i && q.2.category == 2)) = cL ad (L.filter (fun q => !(q.1 == i) && !(q.1 + 1 == i && q.2.category == 2))) := by
  unfold cL
  rw [List.filter_map]
  congr 1
  refine List.filter_congr (fun q _ => ?_)
  show (!(q.1 == i) && !(q.1 + 1 == i && (cV ad q.2).category == 2)) = _
  rw [cV_cat]
theorem q_cLf2 {ad : Nat → Nat} (i : Nat) : (cL ad L).filter (fun q => !(q.1 == i) && (!(q.1 == i + 1) && !(q.1 + 1 == i && q.2.category == 2))) = cL ad (L.filter (fun q => !(q.1 == i) && (!(q.1 == i + 1) && !(q.1 + 1 == i && q.2.category == 2)))) := by
  unfold cL
  rw [List.filter_map]
  congr 1
  refine List.filter_congr (fun q _ => ?_)
  show (!(q.1 == i) && (!(q.1 == i + 1) && !(q.1 + 1 == i && (cV ad q.2).category == 2))) = _
  rw [cV_cat]

theorem q_iconst {n : Int} {v : Int32} (hd : decode M.2.1 pc = .ok (.iconst n, 1)) (hv : Int32.ofInt n = v) (k : qAt S M ρ (pc + 1) L (.int v :: st) σ r) : qAt S M ρ pc L (st) σ r := by
  intro a ha p l e s m args below meth c D ad dA hF H locs ls hP hS hl
  exact lv_iconst hF.1 hF.2.1 hd hv (k a ha p l e s m args below meth c D ad dA hF H locs ls hP hS hl)
theorem q_bipush {n : Int} {v : Int32} (hd : decode M.2.1 pc = .ok (.bipush n, 2)) (hv : (Int8.ofInt n).toInt32 = v) (k : qAt S M ρ (pc + 2) L (.int v :: st) σ r) : qAt S M ρ pc L (st) σ r := by
  intro a ha p l e s m args below meth c D ad dA hF H locs ls hP hS hl
  exact lv_bipush hF.1 hF.2.1 hd hv (k a ha p l e s m args below meth c D ad dA hF H locs ls hP hS hl)
theorem q_sipush {n : Int} {v : Int32} (hd : decode M.2.1 pc = .ok (.sipush n, 3)) (hv : (Int16.ofInt n).toInt32 = v) (k : qAt S M ρ (pc + 3) L (.int v :: st) σ r) : qAt S M ρ pc L (st) σ r := by
  intro a ha p l e s m args below meth c D ad dA hF H locs ls hP hS hl
  exact lv_sipush hF.1 hF.2.1 hd hv (k a ha p l e s m args below meth c D ad dA hF H locs ls hP hS hl)
theorem q_lconst {n : Fin 2} {v : Int64} (hd : decode M.2.1 pc = .ok (.lconst n, 1)) (hv : Int64.ofNat (n : Nat) = v) (k : qAt S M ρ (pc + 1) L (.long v :: st) σ r) : qAt S M ρ pc L (st) σ r := by
  intro a ha p l e s m args below meth c D ad dA hF H locs ls hP hS hl
  exact lv_lconst hF.1 hF.2.1 hd hv (k a ha p l e s m args below meth c D ad dA hF H locs ls hP hS hl)
theorem q_ldc {index : Nat} {v : Int32} (hd : decode M.2.1 pc = .ok (.ldc index, 2)) (hc : Cond.constant M.1.cls index v ∈ gws) (k : qAt S M ρ (pc + 2) L (.int v :: st) σ r) : qAt S M ρ pc L (st) σ r := by
  intro a ha p l e s m args below meth c D ad dA hF H locs ls hP hS hl
  exact lv_ldc hF.1 hF.2.1 hF.2.2.2.1 (hF.2.2.2.2.1 _ hc) hd (k a ha p l e s m args below meth c D ad dA hF H locs ls hP hS hl)
theorem q_ldc_w {index : Nat} {v : Int32} (hd : decode M.2.1 pc = .ok (.ldc_w index, 3)) (hc : Cond.constant M.1.cls index v ∈ gws) (k : qAt S M ρ (pc + 3) L (.int v :: st) σ r) : qAt S M ρ pc L (st) σ r := by
  intro a ha p l e s m args below meth c D ad dA hF H locs ls hP hS hl
  exact lv_ldcw hF.1 hF.2.1 hF.2.2.2.1 (hF.2.2.2.2.1 _ hc) hd (k a ha p l e s m args below meth c D ad dA hF H locs ls hP hS hl)
theorem q_ldc2_w {index : Nat} {v : Int64} (hd : decode M.2.1 pc = .ok (.ldc2_w index, 3)) (hc : Cond.constantLong M.1.cls index v ∈ gws) (k : qAt S M ρ (pc + 3) L (.long v :: st) σ r) : qAt S M ρ pc L (st) σ r := by
  intro a ha p l e s m args below meth c D ad dA hF H locs ls hP hS hl
  exact lv_ldc2 hF.1 hF.2.1 hF.2.2.2.1 (hF.2.2.2.2.1 _ hc) hd (k a ha p l e s m args below meth c D ad dA hF H locs ls hP hS hl)
theorem q_iload_n {kk : Fin 4} {i : Nat} {x : Int32} (hd : decode M.2.1 pc = .ok (.iload_n kk, 1)) (hi : (kk : Nat) = i) (q : Nat) (hq : L[q]? = some (i, .int x)) (k : qAt S M ρ (pc + 1) L (.int x :: st) σ r) : qAt S M ρ pc L (st) σ r := by
  intro a ha p l e s m args below meth c D ad dA hF H locs ls hP hS hl
  exact lv_iload_n hF.1 hF.2.1 hd hi (q_lv hl q hq) (k a ha p l e s m args below meth c D ad dA hF H locs ls hP hS hl)
theorem q_iload {i : Nat} {x : Int32} (hd : decode M.2.1 pc = .ok (.iload i, 2)) (q : Nat) (hq : L[q]? = some (i, .int x)) (k : qAt S M ρ (pc + 2) L (.int x :: st) σ r) : qAt S M ρ pc L (st) σ r := by
  intro a ha p l e s m args below meth c D ad dA hF H locs ls hP hS hl
  exact lv_iload hF.1 hF.2.1 hd (q_lv hl q hq) (k a ha p l e s m args below meth c D ad dA hF H locs ls hP hS hl)
theorem q_lload_n {kk : Fin 4} {i : Nat} {x : Int64} (hd : decode M.2.1 pc = .ok (.lload_n kk, 1)) (hi : (kk : Nat) = i) (q : Nat) (hq : L[q]? = some (i, .long x)) (k : qAt S M ρ (pc + 1) L (.long x :: st) σ r) : qAt S M ρ pc L (st) σ r := by
  intro a ha p l e s m args below meth c D ad dA hF H locs ls hP hS hl
  exact lv_lload_n hF.1 hF.2.1 hd hi (q_lv hl q hq) (k a ha p l e s m args below meth c D ad dA hF H locs ls hP hS hl)
theorem q_lload {i : Nat} {x : Int64} (hd : decode M.2.1 pc = .ok (.lload i, 2)) (q : Nat) (hq : L[q]? = some (i, .long x)) (k : qAt S M ρ (pc + 2) L (.long x :: st) σ r) : qAt S M ρ pc L (st) σ r := by
  intro a ha p l e s m args below meth c D ad dA hF H locs ls hP hS hl
  exact lv_lload hF.1 hF.2.1 hd (q_lv hl q hq) (k a ha p l e s m args below meth c D ad dA hF H locs ls hP hS hl)
theorem q_aload_n {kk : Fin 4} {i : Nat} {x : Nat} (hd : decode M.2.1 pc = .ok (.aload_n kk, 1)) (hi : (kk : Nat) = i) (q : Nat) (hq : L[q]? = some (i, .ref x)) (k : qAt S M ρ (pc + 1) L (.ref x :: st) σ r) : qAt S M ρ pc L (st) σ r := by
  intro a ha p l e s m args below meth c D ad dA hF H locs ls hP hS hl
  exact lv_aload_n hF.1 hF.2.1 hd hi (q_lv hl q hq) (k a ha p l e s m args below meth c D ad dA hF H locs ls hP hS hl)
theorem q_aload {i : Nat} {x : Nat} (hd : decode M.2.1 pc = .ok (.aload i, 2)) (q : Nat) (hq : L[q]? = some (i, .ref x)) (k : qAt S M ρ (pc + 2) L (.ref x :: st) σ r) : qAt S M ρ pc L (st) σ r := by
  intro a ha p l e s m args below meth c D ad dA hF H locs ls hP hS hl
  exact lv_aload hF.1 hF.2.1 hd (q_lv hl q hq) (k a ha p l e s m args below meth c D ad dA hF H locs ls hP hS hl)
theorem q_istore_n {kk : Fin 4} {i : Nat} {x : Int32} {L' : List (Nat × Value)} (hd : decode M.2.1 pc = .ok (.istore_n kk, 1)) (hi : (kk : Nat) = i) (hn : i < M.2.2.1) (hL : (i, Value.int x) :: L.filter (fun q => !(q.1 == i) && !(q.1 + 1 == i && q.2.category == 2)) = L') (k : qAt S M ρ (pc + 1) L' st σ r) : qAt S M ρ pc L (.int x :: st) σ r := by
  intro a ha p l e s m args below meth c D ad dA hF H locs ls hP hS hl
  subst hL
  refine lv_istore_n (lv' := cL ad ((i, Value.int x) :: L.filter (fun q => !(q.1 == i) && !(q.1 + 1 == i && q.2.category == 2)))) hF.1 hF.2.1 hd hi hl hn (by rw [q_cLf]; rfl) (fun ls' hl' => ?_)
  exact k a ha p l e s m args below meth c D ad dA hF H locs ls' hP hS hl'
theorem q_istore {i : Nat} {x : Int32} {L' : List (Nat × Value)} (hd : decode M.2.1 pc = .ok (.istore i, 2)) (hn : i < M.2.2.1) (hL : (i, Value.int x) :: L.filter (fun q => !(q.1 == i) && !(q.1 + 1 == i && q.2.category == 2)) = L') (k : qAt S M ρ (pc + 2) L' st σ r) : qAt S M ρ pc L (.int x :: st) σ r := by
  intro a ha p l e s m args below meth c D ad dA hF H locs ls hP hS hl
  subst hL
  refine lv_istore (lv' := cL ad ((i, Value.int x) :: L.filter (fun q => !(q.1 == i) && !(q.1 + 1 == i && q.2.category == 2)))) hF.1 hF.2.1 hd hl hn (by rw [q_cLf]; rfl) (fun ls' hl' => ?_)
  exact k a ha p l e s m args below meth c D ad dA hF H locs ls' hP hS hl'
theorem q_lstore_n {kk : Fin 4} {i : Nat} {x : Int64} {L' : List (Nat × Value)} (hd : decode M.2.1 pc = .ok (.lstore_n kk, 1)) (hi : (kk : Nat) = i) (hn : i + 1 < M.2.2.1) (hL : (i, Value.long x) :: L.filter (fun q => !(q.1 == i) && (!(q.1 == i + 1) && !(q.1 + 1 == i && q.2.category == 2))) = L') (k : qAt S M ρ (pc + 1) L' st σ r) : qAt S M ρ pc L (.long x :: st) σ r := by
  intro a ha p l e s m args below meth c D ad dA hF H locs ls hP hS hl
  subst hL
  refine lv_lstore_n (lv' := cL ad ((i, Value.long x) :: L.filter (fun q => !(q.1 == i) && (!(q.1 == i + 1) && !(q.1 + 1 == i && q.2.category == 2))))) hF.1 hF.2.1 hd hi hl hn (by rw [q_cLf2]; rfl) (fun ls' hl' => ?_)
  exact k a ha p l e s m args below meth c D ad dA hF H locs ls' hP hS hl'
theorem q_lstore {i : Nat} {x : Int64} {L' : List (Nat × Value)} (hd : decode M.2.1 pc = .ok (.lstore i, 2)) (hn : i + 1 < M.2.2.1) (hL : (i, Value.long x) :: L.filter (fun q => !(q.1 == i) && (!(q.1 == i + 1) && !(q.1 + 1 == i && q.2.category == 2))) = L') (k : qAt S M ρ (pc + 2) L' st σ r) : qAt S M ρ pc L (.long x :: st) σ r := by
  intro a ha p l e s m args below meth c D ad dA hF H locs ls hP hS hl
  subst hL
  refine lv_lstore (lv' := cL ad ((i, Value.long x) :: L.filter (fun q => !(q.1 == i) && (!(q.1 == i + 1) && !(q.1 + 1 == i && q.2.category == 2))))) hF.1 hF.2.1 hd hl hn (by rw [q_cLf2]; rfl) (fun ls' hl' => ?_)
  exact k a ha p l e s m args below meth c D ad dA hF H locs ls' hP hS hl'
theorem q_astore_n {kk : Fin 4} {i : Nat} {x : Nat} {L' : List (Nat × Value)} (hd : decode M.2.1 pc = .ok (.astore_n kk, 1)) (hi : (kk : Nat) = i) (hn : i < M.2.2.1) (hL : (i, Value.ref x) :: L.filter (fun q => !(q.1 == i) && !(q.1 + 1 == i && q.2.category == 2)) = L') (k : qAt S M ρ (pc + 1) L' st σ r) : qAt S M ρ pc L (.ref x :: st) σ r := by
  intro a ha p l e s m args below meth c D ad dA hF H locs ls hP hS hl
  subst hL
  refine lv_astore_n (lv' := cL ad ((i, Value.ref x) :: L.filter (fun q => !(q.1 == i) && !(q.1 + 1 == i && q.2.category == 2)))) hF.1 hF.2.1 hd hi hl hn (by rw [q_cLf]; rfl) (fun ls' hl' => ?_)
  exact k a ha p l e s m args below meth c D ad dA hF H locs ls' hP hS hl'
theorem q_astore {i : Nat} {x : Nat} {L' : List (Nat × Value)} (hd : decode M.2.1 pc = .ok (.astore i, 2)) (hn : i < M.2.2.1) (hL : (i, Value.ref x) :: L.filter (fun q => !(q.1 == i) && !(q.1 + 1 == i && q.2.category == 2)) = L') (k : qAt S M ρ (pc + 2) L' st σ r) : qAt S M ρ pc L (.ref x :: st) σ r := by
  intro a ha p l e s m args below meth c D ad dA hF H locs ls hP hS hl
  subst hL
  refine lv_astore (lv' := cL ad ((i, Value.ref x) :: L.filter (fun q => !(q.1 == i) && !(q.1 + 1 == i && q.2.category == 2)))) hF.1 hF.2.1 hd hl hn (by rw [q_cLf]; rfl) (fun ls' hl' => ?_)
  exact k a ha p l e s m args below meth c D ad dA hF H locs ls' hP hS hl'
theorem q_iinc {i : Nat} {n : Int} {x v : Int32} {L' : List (Nat × Value)} (hd : decode M.2.1 pc = .ok (.iinc i n, 3)) (q : Nat) (hq : L[q]? = some (i, .int x)) (hv : x + Int32.ofInt n = v) (hn : i < M.2.2.1) (hL : (i, Value.int v) :: L.filter (fun q => !(q.1 == i) && !(q.1 + 1 == i && q.2.category == 2)) = L') (k : qAt S M ρ (pc + 3) L' st σ r) : qAt S M ρ pc L st σ r := by
  intro a ha p l e s m args below meth c D ad dA hF H locs ls hP hS hl
  subst hL
  refine lv_iinc (k := q) (lv' := cL ad ((i, Value.int v) :: L.filter (fun q => !(q.1 == i) && !(q.1 + 1 == i && q.2.category == 2)))) hF.1 hF.2.1 hd hl (by unfold cL; rw [List.getElem?_map, hq]; rfl) hv hn (by rw [q_cLf]; rfl) (fun ls' hl' => ?_)
  exact k a ha p l e s m args below meth c D ad dA hF H locs ls' hP hS hl'
theorem q_iadd {x y : Int32} (hd : decode M.2.1 pc = .ok (.iadd, 1))  (k : qAt S M ρ (pc + 1) L (.int (x + y) :: st) σ r) : qAt S M ρ pc L (.int y :: .int x :: st) σ r := by
  intro a ha p l e s m args below meth c D ad dA hF H locs ls hP hS hl
  exact lv_iadd hF.1 hF.2.1 hd (k a ha p l e s m args below meth c D ad dA hF H locs ls hP hS hl)
theorem q_isub {x y : Int32} (hd : decode M.2.1 pc = .ok (.isub, 1))  (k : qAt S M ρ (pc + 1) L (.int (x - y) :: st) σ r) : qAt S M ρ pc L (.int y :: .int x :: st) σ r := by
  intro a ha p l e s m args below meth c D ad dA hF H locs ls hP hS hl
  exact lv_isub hF.1 hF.2.1 hd (k a ha p l e s m args below meth c D ad dA hF H locs ls hP hS hl)
theorem q_imul {x y : Int32} (hd : decode M.2.1 pc = .ok (.imul, 1))  (k : qAt S M ρ (pc + 1) L (.int (x * y) :: st) σ r) : qAt S M ρ pc L (.int y :: .int x :: st) σ r := by
  intro a ha p l e s m args below meth c D ad dA hF H locs ls hP hS hl
  exact lv_imul hF.1 hF.2.1 hd (k a ha p l e s m args below meth c D ad dA hF H locs ls hP hS hl)
theorem q_iand {x y : Int32} (hd : decode M.2.1 pc = .ok (.iand, 1))  (k : qAt S M ρ (pc + 1) L (.int (x &&& y) :: st) σ r) : qAt S M ρ pc L (.int y :: .int x :: st) σ r := by
  intro a ha p l e s m args below meth c D ad dA hF H locs ls hP hS hl
  exact lv_iand hF.1 hF.2.1 hd (k a ha p l e s m args below meth c D ad dA hF H locs ls hP hS hl)
theorem q_ior {x y : Int32} (hd : decode M.2.1 pc = .ok (.ior, 1))  (k : qAt S M ρ (pc + 1) L (.int (x ||| y) :: st) σ r) : qAt S M ρ pc L (.int y :: .int x :: st) σ r := by
  intro a ha p l e s m args below meth c D ad dA hF H locs ls hP hS hl
  exact lv_ior hF.1 hF.2.1 hd (k a ha p l e s m args below meth c D ad dA hF H locs ls hP hS hl)
theorem q_ixor {x y : Int32} (hd : decode M.2.1 pc = .ok (.ixor, 1))  (k : qAt S M ρ (pc + 1) L (.int (x ^^^ y) :: st) σ r) : qAt S M ρ pc L (.int y :: .int x :: st) σ r := by
  intro a ha p l e s m args below meth c D ad dA hF H locs ls hP hS hl
  exact lv_ixor hF.1 hF.2.1 hd (k a ha p l e s m args below meth c D ad dA hF H locs ls hP hS hl)
theorem q_ishl {x y : Int32} (hd : decode M.2.1 pc = .ok (.ishl, 1))  (k : qAt S M ρ (pc + 1) L (.int (x <<< (y &&& 31)) :: st) σ r) : qAt S M ρ pc L (.int y :: .int x :: st) σ r := by
  intro a ha p l e s m args below meth c D ad dA hF H locs ls hP hS hl
  exact lv_ishl hF.1 hF.2.1 hd (k a ha p l e s m args below meth c D ad dA hF H locs ls hP hS hl)
theorem q_ishr {x y : Int32} (hd : decode M.2.1 pc = .ok (.ishr, 1))  (k : qAt S M ρ (pc + 1) L (.int (x >>> (y &&& 31)) :: st) σ r) : qAt S M ρ pc L (.int y :: .int x :: st) σ r := by
  intro a ha p l e s m args below meth c D ad dA hF H locs ls hP hS hl
  exact lv_ishr hF.1 hF.2.1 hd (k a ha p l e s m args below meth c D ad dA hF H locs ls hP hS hl)
theorem q_ladd {x y : Int64} (hd : decode M.2.1 pc = .ok (.ladd, 1))  (k : qAt S M ρ (pc + 1) L (.long (x + y) :: st) σ r) : qAt S M ρ pc L (.long y :: .long x :: st) σ r := by
  intro a ha p l e s m args below meth c D ad dA hF H locs ls hP hS hl
  exact lv_ladd hF.1 hF.2.1 hd (k a ha p l e s m args below meth c D ad dA hF H locs ls hP hS hl)
theorem q_lsub {x y : Int64} (hd : decode M.2.1 pc = .ok (.lsub, 1))  (k : qAt S M ρ (pc + 1) L (.long (x - y) :: st) σ r) : qAt S M ρ pc L (.long y :: .long x :: st) σ r := by
  intro a ha p l e s m args below meth c D ad dA hF H locs ls hP hS hl
  exact lv_lsub hF.1 hF.2.1 hd (k a ha p l e s m args below meth c D ad dA hF H locs ls hP hS hl)
theorem q_lmul {x y : Int64} (hd : decode M.2.1 pc = .ok (.lmul, 1))  (k : qAt S M ρ (pc + 1) L (.long (x * y) :: st) σ r) : qAt S M ρ pc L (.long y :: .long x :: st) σ r := by
  intro a ha p l e s m args below meth c D ad dA hF H locs ls hP hS hl
  exact lv_lmul hF.1 hF.2.1 hd (k a ha p l e s m args below meth c D ad dA hF H locs ls hP hS hl)
theorem q_idiv {x y : Int32} (hd : decode M.2.1 pc = .ok (.idiv, 1)) (hne : ¬ y = 0) (k : qAt S M ρ (pc + 1) L (.int (x / y) :: st) σ r) : qAt S M ρ pc L (.int y :: .int x :: st) σ r := by
  intro a ha p l e s m args below meth c D ad dA hF H locs ls hP hS hl
  exact lv_idiv hF.1 hF.2.1 hd hne (k a ha p l e s m args below meth c D ad dA hF H locs ls hP hS hl)
theorem q_idivC {x y : Int32} (hd : decode M.2.1 pc = .ok (.idiv, 1)) (k : qAt S M ρ (pc + 1) L (.int (x / y) :: st) σ r) : qAt S M ρ pc L (.int y :: .int x :: st) σ (if y = 0 then none else r) := by
  by_cases h : y = 0
  · rw [if_pos h]; exact q_none
  · rw [if_neg h]; exact q_idiv hd h k
theorem q_irem {x y : Int32} (hd : decode M.2.1 pc = .ok (.irem, 1)) (hne : ¬ y = 0) (k : qAt S M ρ (pc + 1) L (.int (x - x / y * y) :: st) σ r) : qAt S M ρ pc L (.int y :: .int x :: st) σ r := by
  intro a ha p l e s m args below meth c D ad dA hF H locs ls hP hS hl
  exact lv_irem hF.1 hF.2.1 hd hne (k a ha p l e s m args below meth c D ad dA hF H locs ls hP hS hl)
theorem q_iremC {x y : Int32} (hd : decode M.2.1 pc = .ok (.irem, 1)) (k : qAt S M ρ (pc + 1) L (.int (x - x / y * y) :: st) σ r) : qAt S M ρ pc L (.int y :: .int x :: st) σ (if y = 0 then none else r) := by
  by_cases h : y = 0
  · rw [if_pos h]; exact q_none
  · rw [if_neg h]; exact q_irem hd h k
theorem q_ldiv {x y : Int64} (hd : decode M.2.1 pc = .ok (.ldiv, 1)) (hne : ¬ y = 0) (k : qAt S M ρ (pc + 1) L (.long (x / y) :: st) σ r) : qAt S M ρ pc L (.long y :: .long x :: st) σ r := by
  intro a ha p l e s m args below meth c D ad dA hF H locs ls hP hS hl
  exact lv_ldiv hF.1 hF.2.1 hd hne (k a ha p l e s m args below meth c D ad dA hF H locs ls hP hS hl)
theorem q_ldivC {x y : Int64} (hd : decode M.2.1 pc = .ok (.ldiv, 1)) (k : qAt S M ρ (pc + 1) L (.long (x / y) :: st) σ r) : qAt S M ρ pc L (.long y :: .long x :: st) σ (if y = 0 then none else r) := by
  by_cases h : y = 0
  · rw [if_pos h]; exact q_none
  · rw [if_neg h]; exact q_ldiv hd h k
theorem q_lrem {x y : Int64} (hd : decode M.2.1 pc = .ok (.lrem, 1)) (hne : ¬ y = 0) (k : qAt S M ρ (pc + 1) L (.long (x - x / y * y) :: st) σ r) : qAt S M ρ pc L (.long y :: .long x :: st) σ r := by
  intro a ha p l e s m args below meth c D ad dA hF H locs ls hP hS hl
  exact lv_lrem hF.1 hF.2.1 hd hne (k a ha p l e s m args below meth c D ad dA hF H locs ls hP hS hl)
theorem q_lremC {x y : Int64} (hd : decode M.2.1 pc = .ok (.lrem, 1)) (k : qAt S M ρ (pc + 1) L (.long (x - x / y * y) :: st) σ r) : qAt S M ρ pc L (.long y :: .long x :: st) σ (if y = 0 then none else r) := by
  by_cases h : y = 0
  · rw [if_pos h]; exact q_none
  · rw [if_neg h]; exact q_lrem hd h k
theorem q_ineg {x : Int32} (hd : decode M.2.1 pc = .ok (.ineg, 1))  (k : qAt S M ρ (pc + 1) L (.int (-x) :: st) σ r) : qAt S M ρ pc L (.int x :: st) σ r := by
  intro a ha p l e s m args below meth c D ad dA hF H locs ls hP hS hl
  exact lv_ineg hF.1 hF.2.1 hd (k a ha p l e s m args below meth c D ad dA hF H locs ls hP hS hl)
theorem q_iushr {x y : Int32} (hd : decode M.2.1 pc = .ok (.iushr, 1))  (k : qAt S M ρ (pc + 1) L (.int ((x.toUInt32 >>> (y.toUInt32 &&& Int32.toUInt32 31)).toInt32) :: st) σ r) : qAt S M ρ pc L (.int y :: .int x :: st) σ r := by
  intro a ha p l e s m args below meth c D ad dA hF H locs ls hP hS hl
  exact lv_iushr hF.1 hF.2.1 hd rfl (k a ha p l e s m args below meth c D ad dA hF H locs ls hP hS hl)
theorem q_i2l {x : Int32} (hd : decode M.2.1 pc = .ok (.i2l, 1))  (k : qAt S M ρ (pc + 1) L (.long x.toInt64 :: st) σ r) : qAt S M ρ pc L (.int x :: st) σ r := by
  intro a ha p l e s m args below meth c D ad dA hF H locs ls hP hS hl
  exact lv_i2l hF.1 hF.2.1 hd rfl (k a ha p l e s m args below meth c D ad dA hF H locs ls hP hS hl)
theorem q_l2i {x : Int64} (hd : decode M.2.1 pc = .ok (.l2i, 1))  (k : qAt S M ρ (pc + 1) L (.int x.toInt32 :: st) σ r) : qAt S M ρ pc L (.long x :: st) σ r := by
  intro a ha p l e s m args below meth c D ad dA hF H locs ls hP hS hl
  exact lv_l2i hF.1 hF.2.1 hd rfl (k a ha p l e s m args below meth c D ad dA hF H locs ls hP hS hl)
theorem q_i2b {x : Int32} (hd : decode M.2.1 pc = .ok (.i2b, 1))  (k : qAt S M ρ (pc + 1) L (.int x.toInt8.toInt32 :: st) σ r) : qAt S M ρ pc L (.int x :: st) σ r := by
  intro a ha p l e s m args below meth c D ad dA hF H locs ls hP hS hl
  exact lv_i2b hF.1 hF.2.1 hd rfl (k a ha p l e s m args below meth c D ad dA hF H locs ls hP hS hl)
theorem q_i2c {x : Int32} (hd : decode M.2.1 pc = .ok (.i2c, 1))  (k : qAt S M ρ (pc + 1) L (.int (x.toUInt32 % 65536).toInt32 :: st) σ r) : qAt S M ρ pc L (.int x :: st) σ r := by
  intro a ha p l e s m args below meth c D ad dA hF H locs ls hP hS hl
  exact lv_i2c hF.1 hF.2.1 hd rfl (k a ha p l e s m args below meth c D ad dA hF H locs ls hP hS hl)
theorem q_lcmp {x y : Int64} (hd : decode M.2.1 pc = .ok (.lcmp, 1))  (k : qAt S M ρ (pc + 1) L (.int (lg_cmp x y) :: st) σ r) : qAt S M ρ pc L (.long y :: .long x :: st) σ r := by
  intro a ha p l e s m args below meth c D ad dA hF H locs ls hP hS hl
  exact W.lcmp hF.1 hF.2.1 hd (k a ha p l e s m args below meth c D ad dA hF H locs ls hP hS hl)
theorem q_dup {v : Value} (hd : decode M.2.1 pc = .ok (.dup, 1)) (hv : v.category = 1) (k : qAt S M ρ (pc + 1) L (v :: v :: st) σ r) : qAt S M ρ pc L (v :: st) σ r := by
  intro a ha p l e s m args below meth c D ad dA hF H locs ls hP hS hl
  exact lv_dup hF.1 hF.2.1 hd ((cV_cat ad v).trans hv) (k a ha p l e s m args below meth c D ad dA hF H locs ls hP hS hl)
theorem q_pop {v : Value} (hd : decode M.2.1 pc = .ok (.pop, 1)) (hv : v.category = 1) (k : qAt S M ρ (pc + 1) L (st) σ r) : qAt S M ρ pc L (v :: st) σ r := by
  intro a ha p l e s m args below meth c D ad dA hF H locs ls hP hS hl
  exact lv_pop hF.1 hF.2.1 hd ((cV_cat ad v).trans hv) (k a ha p l e s m args below meth c D ad dA hF H locs ls hP hS hl)
theorem q_pop2 {v : Value} (hd : decode M.2.1 pc = .ok (.pop2, 1)) (hv : v.category = 2) (k : qAt S M ρ (pc + 1) L (st) σ r) : qAt S M ρ pc L (v :: st) σ r := by
  intro a ha p l e s m args below meth c D ad dA hF H locs ls hP hS hl
  exact lv_pop2_2 hF.1 hF.2.1 hd ((cV_cat ad v).trans hv) (k a ha p l e s m args below meth c D ad dA hF H locs ls hP hS hl)
theorem q_dup2 {v w : Value} (hd : decode M.2.1 pc = .ok (.dup2, 1)) (hv : v.category = 1) (hw : w.category = 1) (k : qAt S M ρ (pc + 1) L (v :: w :: v :: w :: st) σ r) : qAt S M ρ pc L (v :: w :: st) σ r := by
  intro a ha p l e s m args below meth c D ad dA hF H locs ls hP hS hl
  exact lv_dup2_11 hF.1 hF.2.1 hd ((cV_cat ad v).trans hv) ((cV_cat ad w).trans hw) (k a ha p l e s m args below meth c D ad dA hF H locs ls hP hS hl)
theorem q_if_eq {x : Int32} {off : Int} {tgt : Nat} {rt rf : Option α} (hd : decode M.2.1 pc = .ok (.ifCond .eq off, 3)) (ht : (pc : Int) + off = (tgt : Int)) (kt : qAt S M ρ tgt L st σ rt) (kf : qAt S M ρ (pc + 3) L st σ rf) : qAt S M ρ pc L (.int x :: st) σ (if x = 0 then rt else rf) := by
  intro a ha p l e s m args below meth c D ad dA hF H locs ls hP hS hl
  refine lv_if_eq hF.1 hF.2.1 hd ht (fun h => ?_) (fun h => ?_)
  · rw [if_pos h] at ha; exact kt a ha p l e s m args below meth c D ad dA hF H locs ls hP hS hl
  · rw [if_neg h] at ha; exact kf a ha p l e s m args below meth c D ad dA hF H locs ls hP hS hl
theorem q_if_ne {x : Int32} {off : Int} {tgt : Nat} {rt rf : Option α} (hd : decode M.2.1 pc = .ok (.ifCond .ne off, 3)) (ht : (pc : Int) + off = (tgt : Int)) (kt : qAt S M ρ tgt L st σ rt) (kf : qAt S M ρ (pc + 3) L st σ rf) : qAt S M ρ pc L (.int x :: st) σ (if x = 0 then rf else rt) := by
  intro a ha p l e s m args below meth c D ad dA hF H locs ls hP hS hl
  refine lv_if_ne hF.1 hF.2.1 hd ht (fun h => ?_) (fun h => ?_)
  · rw [if_neg h] at ha; exact kt a ha p l e s m args below meth c D ad dA hF H locs ls hP hS hl
  · rw [if_pos h] at ha; exact kf a ha p l e s m args below meth c D ad dA hF H locs ls hP hS hl
theorem q_if_lt {x : Int32} {off : Int} {tgt : Nat} {rt rf : Option α} (hd : decode M.2.1 pc = .ok (.ifCond .lt off, 3)) (ht : (pc : Int) + off = (tgt : Int)) (kt : qAt S M ρ tgt L st σ rt) (kf : qAt S M ρ (pc + 3) L st σ rf) : qAt S M ρ pc L (.int x :: st) σ (if x < 0 then rt else rf) := by
  intro a ha p l e s m args below meth c D ad dA hF H locs ls hP hS hl
  refine lv_if_lt hF.1 hF.2.1 hd ht (fun h => ?_) (fun h => ?_)
  · rw [if_pos h] at ha; exact kt a ha p l e s m args below meth c D ad dA hF H locs ls hP hS hl
  · rw [if_neg h] at ha; exact kf a ha p l e s m args below meth c D ad dA hF H locs ls hP hS hl
theorem q_if_ge {x : Int32} {off : Int} {tgt : Nat} {rt rf : Option α} (hd : decode M.2.1 pc = .ok (.ifCond .ge off, 3)) (ht : (pc : Int) + off = (tgt : Int)) (kt : qAt S M ρ tgt L st σ rt) (kf : qAt S M ρ (pc + 3) L st σ rf) : qAt S M ρ pc L (.int x :: st) σ (if 0 ≤ x then rt else rf) := by
  intro a ha p l e s m args below meth c D ad dA hF H locs ls hP hS hl
  refine lv_if_ge hF.1 hF.2.1 hd ht (fun h => ?_) (fun h => ?_)
  · rw [if_pos h] at ha; exact kt a ha p l e s m args below meth c D ad dA hF H locs ls hP hS hl
  · rw [if_neg h] at ha; exact kf a ha p l e s m args below meth c D ad dA hF H locs ls hP hS hl
theorem q_if_gt {x : Int32} {off : Int} {tgt : Nat} {rt rf : Option α} (hd : decode M.2.1 pc = .ok (.ifCond .gt off, 3)) (ht : (pc : Int) + off = (tgt : Int)) (kt : qAt S M ρ tgt L st σ rt) (kf : qAt S M ρ (pc + 3) L st σ rf) : qAt S M ρ pc L (.int x :: st) σ (if 0 < x then rt else rf) := by
  intro a ha p l e s m args below meth c D ad dA hF H locs ls hP hS hl
  refine lv_if_gt hF.1 hF.2.1 hd ht (fun h => ?_) (fun h => ?_)
  · rw [if_pos h] at ha; exact kt a ha p l e s m args below meth c D ad dA hF H locs ls hP hS hl
  · rw [if_neg h] at ha; exact kf a ha p l e s m args below meth c D ad dA hF H locs ls hP hS hl
theorem q_if_le {x : Int32} {off : Int} {tgt : Nat} {rt rf : Option α} (hd : decode M.2.1 pc = .ok (.ifCond .le off, 3)) (ht : (pc : Int) + off = (tgt : Int)) (kt : qAt S M ρ tgt L st σ rt) (kf : qAt S M ρ (pc + 3) L st σ rf) : qAt S M ρ pc L (.int x :: st) σ (if x ≤ 0 then rt else rf) := by
  intro a ha p l e s m args below meth c D ad dA hF H locs ls hP hS hl
  refine lv_if_le hF.1 hF.2.1 hd ht (fun h => ?_) (fun h => ?_)
  · rw [if_pos h] at ha; exact kt a ha p l e s m args below meth c D ad dA hF H locs ls hP hS hl
  · rw [if_neg h] at ha; exact kf a ha p l e s m args below meth c D ad dA hF H locs ls hP hS hl
theorem q_icmp_eq {x y : Int32} {off : Int} {tgt : Nat} {rt rf : Option α} (hd : decode M.2.1 pc = .ok (.if_icmp .eq off, 3)) (ht : (pc : Int) + off = (tgt : Int)) (kt : qAt S M ρ tgt L st σ rt) (kf : qAt S M ρ (pc + 3) L st σ rf) : qAt S M ρ pc L (.int y :: .int x :: st) σ (if x = y then rt else rf) := by
  intro a ha p l e s m args below meth c D ad dA hF H locs ls hP hS hl
  refine lv_icmp_eq hF.1 hF.2.1 hd ht (fun h => ?_) (fun h => ?_)
  · rw [if_pos h] at ha; exact kt a ha p l e s m args below meth c D ad dA hF H locs ls hP hS hl
  · rw [if_neg h] at ha; exact kf a ha p l e s m args below meth c D ad dA hF H locs ls hP hS hl
theorem q_icmp_ne {x y : Int32} {off : Int} {tgt : Nat} {rt rf : Option α} (hd : decode M.2.1 pc = .ok (.if_icmp .ne off, 3)) (ht : (pc : Int) + off = (tgt : Int)) (kt : qAt S M ρ tgt L st σ rt) (kf : qAt S M ρ (pc + 3) L st σ rf) : qAt S M ρ pc L (.int y :: .int x :: st) σ (if x = y then rf else rt) := by
  intro a ha p l e s m args below meth c D ad dA hF H locs ls hP hS hl
  refine lv_icmp_ne hF.1 hF.2.1 hd ht (fun h => ?_) (fun h => ?_)
  · rw [if_neg h] at ha; exact kt a ha p l e s m args below meth c D ad dA hF H locs ls hP hS hl
  · rw [if_pos h] at ha; exact kf a ha p l e s m args below meth c D ad dA hF H locs ls hP hS hl
theorem q_icmp_lt {x y : Int32} {off : Int} {tgt : Nat} {rt rf : Option α} (hd : decode M.2.1 pc = .ok (.if_icmp .lt off, 3)) (ht : (pc : Int) + off = (tgt : Int)) (kt : qAt S M ρ tgt L st σ rt) (kf : qAt S M ρ (pc + 3) L st σ rf) : qAt S M ρ pc L (.int y :: .int x :: st) σ (if x < y then rt else rf) := by
  intro a ha p l e s m args below meth c D ad dA hF H locs ls hP hS hl
  refine lv_icmp_lt hF.1 hF.2.1 hd ht (fun h => ?_) (fun h => ?_)
  · rw [if_pos h] at ha; exact kt a ha p l e s m args below meth c D ad dA hF H locs ls hP hS hl
  · rw [if_neg h] at ha; exact kf a ha p l e s m args below meth c D ad dA hF H locs ls hP hS hl
theorem q_icmp_ge {x y : Int32} {off : Int} {tgt : Nat} {rt rf : Option α} (hd : decode M.2.1 pc = .ok (.if_icmp .ge off, 3)) (ht : (pc : Int) + off = (tgt : Int)) (kt : qAt S M ρ tgt L st σ rt) (kf : qAt S M ρ (pc + 3) L st σ rf) : qAt S M ρ pc L (.int y :: .int x :: st) σ (if y ≤ x then rt else rf) := by
  intro a ha p l e s m args below meth c D ad dA hF H locs ls hP hS hl
  refine lv_icmp_ge hF.1 hF.2.1 hd ht (fun h => ?_) (fun h => ?_)
  · rw [if_pos h] at ha; exact kt a ha p l e s m args below meth c D ad dA hF H locs ls hP hS hl
  · rw [if_neg h] at ha; exact kf a ha p l e s m args below meth c D ad dA hF H locs ls hP hS hl
theorem q_icmp_gt {x y : Int32} {off : Int} {tgt : Nat} {rt rf : Option α} (hd : decode M.2.1 pc = .ok (.if_icmp .gt off, 3)) (ht : (pc : Int) + off = (tgt : Int)) (kt : qAt S M ρ tgt L st σ rt) (kf : qAt S M ρ (pc + 3) L st σ rf) : qAt S M ρ pc L (.int y :: .int x :: st) σ (if y < x then rt else rf) := by
  intro a ha p l e s m args below meth c D ad dA hF H locs ls hP hS hl
  refine lv_icmp_gt hF.1 hF.2.1 hd ht (fun h => ?_) (fun h => ?_)
  · rw [if_pos h] at ha; exact kt a ha p l e s m args below meth c D ad dA hF H locs ls hP hS hl
  · rw [if_neg h] at ha; exact kf a ha p l e s m args below meth c D ad dA hF H locs ls hP hS hl
theorem q_icmp_le {x y : Int32} {off : Int} {tgt : Nat} {rt rf : Option α} (hd : decode M.2.1 pc = .ok (.if_icmp .le off, 3)) (ht : (pc : Int) + off = (tgt : Int)) (kt : qAt S M ρ tgt L st σ rt) (kf : qAt S M ρ (pc + 3) L st σ rf) : qAt S M ρ pc L (.int y :: .int x :: st) σ (if x ≤ y then rt else rf) := by
  intro a ha p l e s m args below meth c D ad dA hF H locs ls hP hS hl
  refine lv_icmp_le hF.1 hF.2.1 hd ht (fun h => ?_) (fun h => ?_)
  · rw [if_pos h] at ha; exact kt a ha p l e s m args below meth c D ad dA hF H locs ls hP hS hl
  · rw [if_neg h] at ha; exact kf a ha p l e s m args below meth c D ad dA hF H locs ls hP hS hl
theorem q_goto {off : Int} {tgt : Nat} (hd : decode M.2.1 pc = .ok (.goto off, 3)) (ht : (pc : Int) + off = (tgt : Int)) (k : qAt S M ρ (tgt) L (st) σ r) : qAt S M ρ pc L (st) σ r := by
  intro a ha p l e s m args below meth c D ad dA hF H locs ls hP hS hl
  exact lv_goto hF.1 hF.2.1 hd ht (k a ha p l e s m args below meth c D ad dA hF H locs ls hP hS hl)
theorem q_tsw {dflt lo hi : Int} {offs : Array Int} {len : Nat} {x : Int32} {off : Int} {tgt : Nat} {rt rf : Option α} (cc : Int32) (hd : decode M.2.1 pc = .ok (.tableswitch dflt lo hi offs, len)) (h1 : ¬ cc.toInt < lo) (h2 : ¬ hi < cc.toInt) (ho : offs[(cc.toInt - lo).toNat]? = some off) (ht : (pc : Int) + off = (tgt : Int)) (kt : qAt S M ρ tgt L st σ rt) (kf : ¬ x = cc → qAt S M ρ pc L (.int x :: st) σ rf) : qAt S M ρ pc L (.int x :: st) σ (if x = cc then rt else rf) := by
  by_cases h : x = cc
  · subst h
    intro a ha p l e s m args below meth c D ad dA hF H locs ls hP hS hl
    rw [if_pos rfl] at ha
    exact lv_tableIn hF.1 hF.2.1 hd h1 h2 ho ht (kt a ha p l e s m args below meth c D ad dA hF H locs ls hP hS hl)
  · rw [if_neg h]; exact kf h
theorem q_tswD {dflt lo hi : Int} {offs : Array Int} {len : Nat} {x : Int32} {tgt : Nat} (hd : decode M.2.1 pc = .ok (.tableswitch dflt lo hi offs, len)) (h : x.toInt < lo ∨ hi < x.toInt) (ht : (pc : Int) + dflt = (tgt : Int)) (k : qAt S M ρ tgt L st σ r) : qAt S M ρ pc L (.int x :: st) σ r := by
  intro a ha p l e s m args below meth c D ad dA hF H locs ls hP hS hl
  exact lv_tableOut hF.1 hF.2.1 hd h ht (k a ha p l e s m args below meth c D ad dA hF H locs ls hP hS hl)
theorem q_lsw {dflt : Int} {ps : Array (Int × Int)} {len : Nat} {x : Int32} {off : Int} {tgt : Nat} (hd : decode M.2.1 pc = .ok (.lookupswitch dflt ps, len)) (hp : (ps.toList.zip (ps.toList.drop 1)).all (fun (a, next) => a.1 < next.1) = true) (ho : Op.lookupswitch.offset ps.toList dflt x.toInt = off) (ht : (pc : Int) + off = (tgt : Int)) (k : qAt S M ρ tgt L st σ r) : qAt S M ρ pc L (.int x :: st) σ r := by
  intro a ha p l e s m args below meth c D ad dA hF H locs ls hP hS hl
  exact lv_lookup hF.1 hF.2.1 hd hp ho ht (k a ha p l e s m args below meth c D ad dA hF H locs ls hP hS hl)
theorem q_ck {b : Bool} {rt : Option α} (k : b = true → qAt S M ρ pc L st σ rt) : qAt S M ρ pc L st σ (if b = true then rt else none) := by
  by_cases h : b = true
  · rw [if_pos h]; exact k h
  · rw [if_neg h]; exact q_none
theorem q_if {c : Prop} {dec : Decidable c} {rt : Option α} (k : c → qAt S M ρ pc L st σ rt) : qAt S M ρ pc L st σ (@ite _ c dec rt none) := by
  by_cases h : c
  · rw [if_pos h]; exact k h
  · rw [if_neg h]; exact q_none

theorem q_iald {k n : Nat} {i : Int32} (hd : decode M.2.1 pc = .ok (.iaload, 1)) (hk : S.1[k]? = some (.inl (.int, n, []))) (kk : qAt S M ρ (pc + 1) L (.int (gi σ k i.toNatClampNeg) :: st) σ r) : qAt S M ρ pc L (.int i :: .ref k :: st) σ (if ck i n = true then r else none) := by
  refine q_ck (fun h => ?_)
  intro a ha p l e s m args below meth c D ad dA hF H locs ls hP hS hl
  exact va_iald hF.1 hF.2.1 hF.2.2.2.2.2.2.2.1 hP k 0 (cW_at hk) rfl (ck_in h) hd (kk a ha p l e s m args below meth c D ad dA hF H locs ls hP hS hl)
theorem q_zald {k n : Nat} {i : Int32} (hd : decode M.2.1 pc = .ok (.baload, 1)) (hk : S.1[k]? = some (.inl (.boolean, n, []))) (kk : qAt S M ρ (pc + 1) L (.int (gi σ k i.toNatClampNeg) :: st) σ r) : qAt S M ρ pc L (.int i :: .ref k :: st) σ (if ck i n = true then r else none) := by
  refine q_ck (fun h => ?_)
  intro a ha p l e s m args below meth c D ad dA hF H locs ls hP hS hl
  exact va_zald hF.1 hF.2.1 hF.2.2.2.2.2.2.2.1 hP k 2 (cW_at hk) rfl (ck_in h) hd (kk a ha p l e s m args below meth c D ad dA hF H locs ls hP hS hl)
theorem q_bald {k n : Nat} {i : Int32} (hd : decode M.2.1 pc = .ok (.baload, 1)) (hk : S.1[k]? = some (.inl (.byte, n, []))) (kk : qAt S M ρ (pc + 1) L (.int (gi σ k i.toNatClampNeg) :: st) σ r) : qAt S M ρ pc L (.int i :: .ref k :: st) σ (if ck i n = true then r else none) := by
  refine q_ck (fun h => ?_)
  intro a ha p l e s m args below meth c D ad dA hF H locs ls hP hS hl
  exact va_bald hF.1 hF.2.1 hF.2.2.2.2.2.2.2.1 hP k 3 (cW_at hk) rfl (ck_in h) hd (kk a ha p l e s m args below meth c D ad dA hF H locs ls hP hS hl)
theorem q_lald {k n : Nat} {i : Int32} (hd : decode M.2.1 pc = .ok (.laload, 1)) (hk : S.1[k]? = some (.inl (.long, n, []))) (kk : qAt S M ρ (pc + 1) L (.long (gl σ k i.toNatClampNeg) :: st) σ r) : qAt S M ρ pc L (.int i :: .ref k :: st) σ (if ck i n = true then r else none) := by
  refine q_ck (fun h => ?_)
  intro a ha p l e s m args below meth c D ad dA hF H locs ls hP hS hl
  exact va_lald hF.1 hF.2.1 hF.2.2.2.2.2.2.2.1 hP k 1 (cW_at hk) rfl (ck_in h) hd (kk a ha p l e s m args below meth c D ad dA hF H locs ls hP hS hl)
theorem q_iast {k n : Nat} {i : Int32} {x : Int32} (hd : decode M.2.1 pc = .ok (.iastore, 1)) (hk : S.1[k]? = some (.inl (.int, n, []))) (kk : qAt S M ρ (pc + 1) L st (si σ k i.toNatClampNeg x) r) : qAt S M ρ pc L (.int x :: .int i :: .ref k :: st) σ (if ck i n = true then r else none) := by
  refine q_ck (fun h => ?_)
  intro a ha p l e s m args below meth c D ad dA hF H locs ls hP hS hl
  refine va_iast hF.1 hF.2.1 hF.2.2.2.2.2.2.2.1 hP (cW_D hF.2.2.2.2.2.2.2.2.1) hS k 0 (cW_at hk) rfl (ck_in h) hd (fun H1 locs1 hP1 _ hS1 => ?_)
  refine kk a ha p l e s m args below meth c D ad dA hF H1 locs1 ls ?_ hS1 hl
  rw [show cW S ad dA (si σ k i.toNatClampNeg x) = _ from cW_set hk sr_ne1 sr_ne2]
  unfold si
  rw [cE_sr (fun _ => rfl)]
  exact hP1
theorem q_zast {k n : Nat} {i : Int32} {x : Int32} (hd : decode M.2.1 pc = .ok (.bastore, 1)) (hk : S.1[k]? = some (.inl (.boolean, n, []))) (kk : qAt S M ρ (pc + 1) L st (si σ k i.toNatClampNeg (vp_nar .boolean x)) r) : qAt S M ρ pc L (.int x :: .int i :: .ref k :: st) σ (if ck i n = true then r else none) := by
  refine q_ck (fun h => ?_)
  intro a ha p l e s m args below meth c D ad dA hF H locs ls hP hS hl
  refine va_zast hF.1 hF.2.1 hF.2.2.2.2.2.2.2.1 hP (cW_D hF.2.2.2.2.2.2.2.2.1) hS k 2 (cW_at hk) rfl (ck_in h) hd (fun H1 locs1 hP1 _ hS1 => ?_)
  refine kk a ha p l e s m args below meth c D ad dA hF H1 locs1 ls ?_ hS1 hl
  rw [show cW S ad dA (si σ k i.toNatClampNeg (vp_nar .boolean x)) = _ from cW_set hk sr_ne1 sr_ne2]
  unfold si
  rw [cE_sr (fun _ => rfl)]
  exact hP1
theorem q_bast {k n : Nat} {i : Int32} {x : Int32} (hd : decode M.2.1 pc = .ok (.bastore, 1)) (hk : S.1[k]? = some (.inl (.byte, n, []))) (kk : qAt S M ρ (pc + 1) L st (si σ k i.toNatClampNeg (vp_nar .byte x)) r) : qAt S M ρ pc L (.int x :: .int i :: .ref k :: st) σ (if ck i n = true then r else none) := by
  refine q_ck (fun h => ?_)
  intro a ha p l e s m args below meth c D ad dA hF H locs ls hP hS hl
  refine va_bast hF.1 hF.2.1 hF.2.2.2.2.2.2.2.1 hP (cW_D hF.2.2.2.2.2.2.2.2.1) hS k 3 (cW_at hk) rfl (ck_in h) hd (fun H1 locs1 hP1 _ hS1 => ?_)
  refine kk a ha p l e s m args below meth c D ad dA hF H1 locs1 ls ?_ hS1 hl
  rw [show cW S ad dA (si σ k i.toNatClampNeg (vp_nar .byte x)) = _ from cW_set hk sr_ne1 sr_ne2]
  unfold si
  rw [cE_sr (fun _ => rfl)]
  exact hP1
theorem q_last {k n : Nat} {i : Int32} {x : Int64} (hd : decode M.2.1 pc = .ok (.lastore, 1)) (hk : S.1[k]? = some (.inl (.long, n, []))) (kk : qAt S M ρ (pc + 1) L st (sl σ k i.toNatClampNeg x) r) : qAt S M ρ pc L (.long x :: .int i :: .ref k :: st) σ (if ck i n = true then r else none) := by
  refine q_ck (fun h => ?_)
  intro a ha p l e s m args below meth c D ad dA hF H locs ls hP hS hl
  refine va_last hF.1 hF.2.1 hF.2.2.2.2.2.2.2.1 hP (cW_D hF.2.2.2.2.2.2.2.2.1) hS k 1 (cW_at hk) rfl (ck_in h) hd (fun H1 locs1 hP1 _ hS1 => ?_)
  refine kk a ha p l e s m args below meth c D ad dA hF H1 locs1 ls ?_ hS1 hl
  rw [show cW S ad dA (sl σ k i.toNatClampNeg x) = _ from cW_set hk slr_ne1 slr_ne2]
  unfold sl
  rw [cE_slr]
  exact hP1
theorem q_aald {k n : Nat} {C : String} {t0 : Nat} {ts : List Nat} {i : Int32} (f : Nat → Nat) (hd : decode M.2.1 pc = .ok (.aaload, 1)) (hk : S.1[k]? = some (.inl (.object C, n, ts))) (ht : ∀ dA, (qtys dA)[t0]? = some (dA (.object C), .object C)) (hts : ∀ j, j < n → ts[j]? = some (f j)) (kk : ck i n = true → qAt S M ρ (pc + 1) L (.ref (f i.toNatClampNeg) :: st) σ r) : qAt S M ρ pc L (.int i :: .ref k :: st) σ (if ck i n = true then r else none) := by
  refine q_ck (fun h => ?_)
  intro a ha p l e s m args below meth c D ad dA hF H locs ls hP hS hl
  have hlt : i.toNatClampNeg < n := Nat.not_le.mp fun q => ck_in h (Or.inr q)
  refine va_aldq (f := fun j => (ts[j]?).map ad) hF.1 hF.2.1 hF.2.2.2.2.2.2.2.1 hP k t0 (cW_at hk) (ht dA) (ck_in h) hd ?_
  have e1 : va_rf ((ts[i.toNatClampNeg]?).map ad) = .ref (ad (f i.toNatClampNeg)) := by rw [hts _ hlt]; rfl
  rw [e1]
  exact kk h a ha p l e s m args below meth c D ad dA hF H locs ls hP hS hl
theorem q_alen {k n t0 : Nat} {ty : FieldType} {ts : List Nat} {v : Int32} (hd : decode M.2.1 pc = .ok (.arraylength, 1)) (hk : S.1[k]? = some (.inl (ty, n, ts))) (ht : ∀ dA, (qtys dA)[t0]? = some (dA ty, ty)) (hv : Int32.ofNat n = v) (kk : qAt S M ρ (pc + 1) L (.int v :: st) σ r) : qAt S M ρ pc L (.ref k :: st) σ r := by
  intro a ha p l e s m args below meth c D ad dA hF H locs ls hP hS hl
  exact va_alen hF.1 hF.2.1 hF.2.2.2.2.2.2.2.1 hP k t0 (cW_at hk) (ht dA) (v := v) hv hd (kk a ha p l e s m args below meth c D ad dA hF H locs ls hP hS hl)
/-- a field, its links, its place -/
def fOK (own : String) (idx ci j : Nat) : Prop := ∃ (C : String) (T : u_T) (N : Nat) (ty : Nat → FieldType), vwCl[ci]? = some (C, T, N) ∧ j < N ∧ (∀ w ∈ u_ws C T N, w ∈ gws) ∧ (∀ k, k < N → parseFieldDescriptor (T k).2.2.1 = some (ty k)) ∧ (∀ a, a < N → ∀ b, b < N → a ≠ b → (T a).2.1 ≠ (T b).2.1) ∧ (T j).1 = C ∧ (Cond.fieldLink own idx C (T j).2.1 (T j).2.2.1 ∈ gws ∨ ∃ host, Cond.fieldLinkNest own idx C (T j).2.1 (T j).2.2.1 host ∈ nws)
/-- that field isn't final, and of this type -/
def fWr (ci j : Nat) (t : FieldType) : Prop := ∃ q : vw_C, vwCl[ci]? = some q ∧ (q.2.1 j).2.2.2 = false ∧ parseFieldDescriptor (q.2.1 j).2.2.1 = some t
theorem q_getV {k ci j idx : Nat} {ks : List (Nat ⊕ Nat)} {kd : Nat ⊕ Nat} {v : Value} (hd : decode M.2.1 pc = .ok (.getfield idx, 3)) (hf : fOK M.1.cls idx ci j) (hk : S.1[k]? = some (.inr (ci, ks))) (hj : ks[j]? = some kd) (hv : ∀ ad, fV ad σ k j kd = cV ad v) (kk : qAt S M ρ (pc + 3) L (v :: st) σ r) : qAt S M ρ pc L (.ref k :: st) σ r := by
  obtain ⟨C, T, N, ty, h1, h2, h3, h4, h5, h6, h7⟩ := hf
  intro a ha p l e s m args below meth c D ad dA hF H locs ls hP hS hl
  have hfs : (ks.mapIdx (fV ad σ k))[j]? = some (cV ad v) := by rw [List.getElem?_mapIdx, hj]; exact congrArg some (hv ad)
  have kk' := kk a ha p l e s m args below meth c D ad dA hF H locs ls hP hS hl
  rcases h7 with h7 | ⟨host, h7⟩
  · exact va_get (D := D) (ci := ci) (v := cV ad v) (C := C) (T := T) (N := N) hF.1 hF.2.1 hF.2.2.2.2.1 h3 hF.2.2.2.1 hF.2.2.2.2.2.2.2.1 hP k (cW_at hk) h1 j h2 (hF.2.2.2.2.1 _ h7) (fun _ h9 => by rw [h6] at h9; exact h9) hfs hd kk'
  · exact va_getN (D := D) (ci := ci) (v := cV ad v) (C := C) (T := T) (N := N) hF.1 hF.2.1 hF.2.2.2.2.1 h3 hF.2.2.2.1 hF.2.2.2.2.2.2.2.1 hP k (cW_at hk) h1 j h2 (va_Nw.use rfl (hF.2.2.2.2.2.2.2.2.2.1 _ h7)) (fun _ h9 => by rw [h6] at h9; exact h9) hfs hd kk'
theorem q_geti {k ci j idx : Nat} {ks : List (Nat ⊕ Nat)} (hd : decode M.2.1 pc = .ok (.getfield idx, 3)) (hf : fOK M.1.cls idx ci j) (hk : S.1[k]? = some (.inr (ci, ks))) (hj : ks[j]? = some (.inl 0)) (kk : qAt S M ρ (pc + 3) L (.int (gi σ k j) :: st) σ r) : qAt S M ρ pc L (.ref k :: st) σ r := q_getV hd hf hk hj (fun _ => rfl) kk
theorem q_getl {k ci j idx : Nat} {ks : List (Nat ⊕ Nat)} (hd : decode M.2.1 pc = .ok (.getfield idx, 3)) (hf : fOK M.1.cls idx ci j) (hk : S.1[k]? = some (.inr (ci, ks))) (hj : ks[j]? = some (.inl 1)) (kk : qAt S M ρ (pc + 3) L (.long (gl σ k j) :: st) σ r) : qAt S M ρ pc L (.ref k :: st) σ r := q_getV hd hf hk hj (fun _ => rfl) kk
theorem q_getr {k ci j idx t : Nat} {ks : List (Nat ⊕ Nat)} (hd : decode M.2.1 pc = .ok (.getfield idx, 3)) (hf : fOK M.1.cls idx ci j) (hk : S.1[k]? = some (.inr (ci, ks))) (hj : ks[j]? = some (.inr t)) (kk : qAt S M ρ (pc + 3) L (.ref t :: st) σ r) : qAt S M ρ pc L (.ref k :: st) σ r := q_getV hd hf hk hj (fun _ => rfl) kk
theorem q_getd {k ci j idx t : Nat} {ks : List (Nat ⊕ Nat)} (hd : decode M.2.1 pc = .ok (.getfield idx, 3)) (hf : fOK M.1.cls idx ci j) (hk : S.1[k]? = some (.inr (ci, ks))) (hj : ks[j]? = some (.inl 2)) (kk : qAt S M ρ (pc + 3) L (.ref t :: st) σ r) : qAt S M ρ pc L (.ref k :: st) σ (if (gi σ k j).toNatClampNeg = t then r else none) := q_if (fun h => q_getV hd hf hk hj (fun ad => by show Value.ref (ad (gi σ k j).toNatClampNeg) = _; rw [h]; rfl) kk)
theorem q_putV {k ci j idx : Nat} {ks : List (Nat ⊕ Nat)} {v : Value} {τ : qMem} {t : FieldType} (hd : decode M.2.1 pc = .ok (.putfield idx, 3)) (hf : fOK M.1.cls idx ci j) (hw : fWr ci j t) (hk : S.1[k]? = some (.inr (ci, ks))) (hj : j < ks.length) (hn : ∀ ad, narrow t (cV ad v) = cV ad v) (hfit : ∀ ad, fits t (cV ad v) = true) (hτ : ∀ ad dA, cE ad dA τ k (.inr (ci, ks)) = .inr (ci, (ks.mapIdx (fV ad σ k)).set j (cV ad v))) (hne1 : ∀ k', k' ≠ k → σ.1 k' = τ.1 k') (hne2 : ∀ k', k' ≠ k → σ.2 k' = τ.2 k') (kk : qAt S M ρ (pc + 3) L st τ r) : qAt S M ρ pc L (v :: .ref k :: st) σ r := by
  obtain ⟨C, T, N, ty, h1, h2, h3, h4, h5, h6, h7⟩ := hf
  obtain ⟨q, g1, g2, g3⟩ := hw
  obtain rfl : q = (C, T, N) := Option.some.inj (g1.symm.trans h1)
  intro a ha p l e s m args below meth c D ad dA hF H locs ls hP hS hl
  have fin : ∀ (H1 : Heap) (locs1 : List Loc), va_P D vwCl ((cW S ad dA σ).set k (ad k, .inr (ci, (ks.mapIdx (fV ad σ k)).set j (cV ad v)))) H1 → va_D (Aw S ad) ((cW S ad dA σ).set k (ad k, .inr (ci, (ks.mapIdx (fV ad σ k)).set j (cV ad v)))) → va_S (Aw S ad) s.heap H1 locs1 → W p l e (rmM M) s m args below meth c H1 locs1 0 0 (MQ below (qQc S D ad dA (ρ a)) args s 0 0 (Aw S ad)) (F0 m (pc + 3) ls (st.map (cV ad))) := by
    intro H1 locs1 hP1 _ hS1
    refine kk a ha p l e s m args below meth c D ad dA hF H1 locs1 ls ?_ hS1 hl
    rw [cW_set hk hne1 hne2, hτ]
    exact hP1
  rcases h7 with h7 | ⟨host, h7⟩
  · exact va_put (D := D) (ci := ci) (v := cV ad v) (ty := t) (C := C) (T := T) (N := N) hF.1 hF.2.1 hF.2.2.2.2.1 h3 ty h4 h5 hF.2.2.2.1 hF.2.2.2.2.2.2.2.1 hP (cW_D hF.2.2.2.2.2.2.2.2.1) hS k (cW_at hk) h1 j h2 (hF.2.2.2.2.1 _ h7) (fun _ h9 => by rw [h6] at h9; exact h9) g2 g3 (hn ad) (hfit ad) (by simpa using hj) hd fin
  · exact va_putN (D := D) (ci := ci) (v := cV ad v) (ty := t) (C := C) (T := T) (N := N) hF.1 hF.2.1 hF.2.2.2.2.1 h3 ty h4 h5 hF.2.2.2.1 hF.2.2.2.2.2.2.2.1 hP (cW_D hF.2.2.2.2.2.2.2.2.1) hS k (cW_at hk) h1 j h2 (va_Nw.use rfl (hF.2.2.2.2.2.2.2.2.2.1 _ h7)) (fun _ h9 => by rw [h6] at h9; exact h9) g2 g3 (hn ad) (hfit ad) (by simpa using hj) hd fin
theorem q_puti {k ci j idx : Nat} {ks : List (Nat ⊕ Nat)} {x : Int32} (hd : decode M.2.1 pc = .ok (.putfield idx, 3)) (hf : fOK M.1.cls idx ci j) (hw : fWr ci j .int) (hk : S.1[k]? = some (.inr (ci, ks))) (hj : ks[j]? = some (.inl 0)) (kk : qAt S M ρ (pc + 3) L st (si σ k j x) r) : qAt S M ρ pc L (.int x :: .ref k :: st) σ r := q_putV hd hf hw hk (List.getElem?_eq_some_iff.mp hj).1 (fun _ => rfl) (fun _ => rfl) (fun _ _ => cE_si hj) sr_ne1 sr_ne2 kk
theorem q_putz {k ci j idx : Nat} {ks : List (Nat ⊕ Nat)} {x : Int32} (hd : decode M.2.1 pc = .ok (.putfield idx, 3)) (hf : fOK M.1.cls idx ci j) (hw : fWr ci j .boolean) (hk : S.1[k]? = some (.inr (ci, ks))) (hj : ks[j]? = some (.inl 0)) (hx : x = 0 ∨ x = 1) (kk : qAt S M ρ (pc + 3) L st (si σ k j x) r) : qAt S M ρ pc L (.int x :: .ref k :: st) σ r := q_putV hd hf hw hk (List.getElem?_eq_some_iff.mp hj).1 (fun _ => by rcases hx with rfl | rfl <;> rfl) (fun _ => by rcases hx with rfl | rfl <;> rfl) (fun _ _ => cE_si hj) sr_ne1 sr_ne2 kk
theorem q_putl {k ci j idx : Nat} {ks : List (Nat ⊕ Nat)} {x : Int64} (hd : decode M.2.1 pc = .ok (.putfield idx, 3)) (hf : fOK M.1.cls idx ci j) (hw : fWr ci j .long) (hk : S.1[k]? = some (.inr (ci, ks))) (hj : ks[j]? = some (.inl 1)) (kk : qAt S M ρ (pc + 3) L st (sl σ k j x) r) : qAt S M ρ pc L (.long x :: .ref k :: st) σ r := q_putV hd hf hw hk (List.getElem?_eq_some_iff.mp hj).1 (fun _ => rfl) (fun _ => rfl) (fun _ _ => cE_sl hj) slr_ne1 slr_ne2 kk
theorem q_putd {k ci j idx t : Nat} {ks : List (Nat ⊕ Nat)} {ty : FieldType} {x : Int32} (hd : decode M.2.1 pc = .ok (.putfield idx, 3)) (hf : fOK M.1.cls idx ci j) (hw : fWr ci j (.array ty)) (hk : S.1[k]? = some (.inr (ci, ks))) (hj : ks[j]? = some (.inl 2)) (hx : x.toNatClampNeg = t) (kk : qAt S M ρ (pc + 3) L st (si σ k j x) r) : qAt S M ρ pc L (.ref t :: .ref k :: st) σ r := q_putV hd hf hw hk (List.getElem?_eq_some_iff.mp hj).1 (fun _ => rfl) (fun _ => rfl) (τ := si σ k j x) (fun ad dA => by subst hx; exact cE_sd hj) sr_ne1 sr_ne2 kk

theorem q_ireti {x : Int32} {y : α} (hd : decode M.2.1 pc = .ok (.ireturn, 1)) (hr : M.2.2.2.1 = some .int) (hy : ρ y = (some (.int x), σ)) : qAt S M ρ pc L [.int x] σ (some y) := by
  intro a ha p l e s m args below meth c D ad dA hF H locs ls hP hS hl
  cases ha
  exact W.iret (v := x) hF.1 hF.2.1 (hF.2.2.2.2.2.1.trans hr) (fun t ht _ => ⟨⟨by rw [hy]; rfl, by rw [hy, ht]; exact hP⟩, hS.F ht⟩) hS.2.2 hd hF.2.2.2.2.2.2.1
theorem q_iretz {x : Int32} {y : α} {ty : FieldType} (hd : decode M.2.1 pc = .ok (.ireturn, 1)) (hr : M.2.2.2.1 = some ty) (hx : narrow ty (.int x) = .int x) (hy : ρ y = (some (.int x), σ)) : qAt S M ρ pc L [.int x] σ (some y) := by
  intro a ha p l e s m args below meth c D ad dA hF H locs ls hP hS hl
  cases ha
  exact W.zret (v := x) hF.1 hF.2.1 (hF.2.2.2.2.2.1.trans hr) hx (fun t ht _ => ⟨⟨by rw [hy]; rfl, by rw [hy, ht]; exact hP⟩, hS.F ht⟩) hS.2.2 hd hF.2.2.2.2.2.2.1
theorem q_lret {x : Int64} {y : α} (hd : decode M.2.1 pc = .ok (.lreturn, 1)) (hr : M.2.2.2.1 = some .long) (hy : ρ y = (some (.long x), σ)) : qAt S M ρ pc L [.long x] σ (some y) := by
  intro a ha p l e s m args below meth c D ad dA hF H locs ls hP hS hl
  cases ha
  exact W.lret (v := x) hF.1 hF.2.1 (hF.2.2.2.2.2.1.trans hr) (fun t ht _ => ⟨⟨by rw [hy]; rfl, by rw [hy, ht]; exact hP⟩, hS.F ht⟩) hS.2.2 hd hF.2.2.2.2.2.2.1
theorem q_vret {y : α} (hd : decode M.2.1 pc = .ok (.return_, 1)) (hr : M.2.2.2.1 = none) (hy : ρ y = (none, σ)) : qAt S M ρ pc L [] σ (some y) := by
  intro a ha p l e s m args below meth c D ad dA hF H locs ls hP hS hl
  cases ha
  exact W.vret hF.1 hF.2.1 (hF.2.2.2.2.2.1.trans hr) (fun t ht _ => ⟨⟨by rw [hy]; rfl, by rw [hy, ht]; exact hP⟩, hS.F ht⟩) hS.2.2 hd hF.2.2.2.2.2.2.1
end QA

