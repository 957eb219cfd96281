/-! the law's entry: the classes, the tables and the strings that are there; both systems made -/
theorem t_1 {w : Cond} (i : Nat) (h : tables_1_1[i]? = some w) : w ∈ lw_tbl := tb_in (List.mem_append_left _ (List.mem_of_getElem? h))
theorem t_2 {w : Cond} (i : Nat) (h : tables_1_2[i]? = some w) : w ∈ lw_tbl := tb_in (List.mem_append_right _ (List.mem_append_left _ (List.mem_of_getElem? h)))
theorem t_3 {w : Cond} (i : Nat) (h : tables_1_3[i]? = some w) : w ∈ lw_tbl := tb_in (List.mem_append_right _ (List.mem_append_right _ (List.mem_append_left _ (List.mem_of_getElem? h))))
theorem t_4 {w : Cond} (i : Nat) (h : tables_1_4[i]? = some w) : w ∈ lw_tbl := tb_in (List.mem_append_right _ (List.mem_append_right _ (List.mem_append_right _ (List.mem_append_left _ (List.mem_of_getElem? h)))))
theorem t_5 {w : Cond} (i : Nat) (h : tables_1_5[i]? = some w) : w ∈ lw_tbl := tb_in (List.mem_append_right _ (List.mem_append_right _ (List.mem_append_right _ (List.mem_append_right _ (List.mem_append_left _ (List.mem_of_getElem? h))))))
theorem t_6 {w : Cond} (i : Nat) (h : tables_1_6[i]? = some w) : w ∈ lw_tbl := tb_in (List.mem_append_right _ (List.mem_append_right _ (List.mem_append_right _ (List.mem_append_right _ (List.mem_append_right _ (List.mem_append_left _ (List.mem_of_getElem? h)))))))
theorem t_7 {w : Cond} (i : Nat) (h : tables_1_7[i]? = some w) : w ∈ lw_tbl := tb_in (List.mem_append_right _ (List.mem_append_right _ (List.mem_append_right _ (List.mem_append_right _ (List.mem_append_right _ (List.mem_append_right _ (List.mem_append_left _ (List.mem_of_getElem? h))))))))
theorem t_8 {w : Cond} (i : Nat) (h : tables_1_8[i]? = some w) : w ∈ lw_tbl := tb_in (List.mem_append_right _ (List.mem_append_right _ (List.mem_append_right _ (List.mem_append_right _ (List.mem_append_right _ (List.mem_append_right _ (List.mem_append_right _ (List.mem_append_left _ (List.mem_of_getElem? h)))))))))
theorem t_9 {w : Cond} (i : Nat) (h : tables_1_9[i]? = some w) : w ∈ lw_tbl := tb_in (List.mem_append_right _ (List.mem_append_right _ (List.mem_append_right _ (List.mem_append_right _ (List.mem_append_right _ (List.mem_append_right _ (List.mem_append_right _ (List.mem_append_right _ (List.mem_of_getElem? h)))))))))
theorem aK_prim {s : State} {a : Array Value} {ty : FieldType} (hty : ∀ C, ty ≠ .object C) (h : (Cond.arrayClass ty).before a s = true) : ∃ cA : ClassId, ArrOfT s cA ty ∧ va_RA s cA ty := by
  obtain ⟨c, k, comp, h1, h2, h3⟩ := Cond.arrayClass_spec h
  refine ⟨c, fun n z => ⟨fun k h => (by cases h), k, h2, comp, h3⟩, ?_⟩
  cases ty <;> first | exact absurd rfl (hty _) | exact h1
theorem aK_obj {s : State} {a : Array Value} {C : String} (h : (Cond.arrayOver (.object C)).before a s = true) : ∃ cA : ClassId, ArrOfT s cA (.object C) ∧ va_RA s cA (.object C) := by
  obtain ⟨comp, c, k, h1, h2, h3, h4, h5⟩ := Cond.arrayOver_spec h
  exact ⟨c, fun n z => ⟨fun k h => (by cases h), k, h3, comp, h4⟩, k, comp, h3, h4, h1, h5⟩
theorem ao_all : ∀ C ∈ qObj, Cond.arrayOver (.object C) ∈ lw_tbl := List.forall_mem_cons.mpr ⟨t_1 37 (by decide +kernel), List.forall_mem_cons.mpr ⟨t_1 217 (by decide +kernel), List.forall_mem_cons.mpr ⟨t_1 228 (by decide +kernel), List.forall_mem_cons.mpr ⟨t_1 225 (by decide +kernel), fun _ h => absurd h List.not_mem_nil⟩⟩⟩⟩
theorem ent_A {s : State} {a : Array Value} (hts : ∀ w ∈ lw_tbl, w.before a s = true) : ∃ dA : FieldType → ClassId, ∀ (k : Nat) (q : ClassId × FieldType), (qtys dA)[k]? = some q → ArrOfT s q.1 q.2 ∧ va_RA s q.1 q.2 := by
  have h0 : ∀ ty : FieldType, ∃ cA : ClassId, ty ∈ ([.int, .long, .boolean, .byte, .object RX1, .object RX2, .object RX7, .object RX8] : List FieldType) → ArrOfT s cA ty ∧ va_RA s cA ty := by
    intro ty
    by_cases h : ty ∈ ([.int, .long, .boolean, .byte, .object RX1, .object RX2, .object RX7, .object RX8] : List FieldType)
    · have h' := h
      simp only [List.mem_cons, List.not_mem_nil, or_false] at h'
      rcases h' with rfl | rfl | rfl | rfl | rfl | rfl | rfl | rfl
      · obtain ⟨cA, q⟩ := aK_prim (ty := .int) (fun _ => by intro z; cases z) (hts _ (t_1 71 (by decide +kernel)))
        exact ⟨cA, fun _ => q⟩
      · obtain ⟨cA, q⟩ := aK_prim (ty := .long) (fun _ => by intro z; cases z) (hts _ (t_1 153 (by decide +kernel)))
        exact ⟨cA, fun _ => q⟩
      · obtain ⟨cA, q⟩ := aK_prim (ty := .boolean) (fun _ => by intro z; cases z) (hts _ (t_2 1 (by decide +kernel)))
        exact ⟨cA, fun _ => q⟩
      · obtain ⟨cA, q⟩ := aK_prim (ty := .byte) (fun _ => by intro z; cases z) (hts _ (t_4 141 (by decide +kernel)))
        exact ⟨cA, fun _ => q⟩
      · obtain ⟨cA, q⟩ := aK_obj (C := RX1) (hts _ (t_1 37 (by decide +kernel)))
        exact ⟨cA, fun _ => q⟩
      · obtain ⟨cA, q⟩ := aK_obj (C := RX2) (hts _ (t_1 217 (by decide +kernel)))
        exact ⟨cA, fun _ => q⟩
      · obtain ⟨cA, q⟩ := aK_obj (C := RX7) (hts _ (t_1 228 (by decide +kernel)))
        exact ⟨cA, fun _ => q⟩
      · obtain ⟨cA, q⟩ := aK_obj (C := RX8) (hts _ (t_1 225 (by decide +kernel)))
        exact ⟨cA, fun _ => q⟩
    · exact ⟨0, fun z => absurd z h⟩
  obtain ⟨dA, hd⟩ := Classical.axiomOfChoice h0
  refine ⟨dA, fun k q hq => ?_⟩
  have hm := List.mem_of_getElem? hq
  simp only [qtys, List.mem_cons, List.not_mem_nil, or_false] at hm
  rcases hm with rfl | rfl | rfl | rfl | rfl | rfl | rfl | rfl <;> exact hd _ (by simp)
theorem ent_C {s : State} {a : Array Value} (hg : ∀ w ∈ gws, w.before a s = true) : ∃ D : va_G, ∀ (c : Nat) (q : vw_C), vwCl[c]? = some q → u_Kn s q.1 q.2.1 q.2.2 (D.1 c) (D.2 c) := by
  have h0 : ∀ c : Nat, ∃ d : ClassId × (Nat → Nat), ∀ q : vw_C, vwCl[c]? = some q → u_Kn s q.1 q.2.1 q.2.2 d.1 d.2 := by
    intro c
    match c with
    | 0 => obtain ⟨cC, iS, h⟩ := u_known (C := RX0) (T := TX0) (N := 4) (n := 4) hg inX0 (hg _ (g_2 3 (by decide +kernel) rfl)); exact ⟨(cC, iS), fun q hq => by cases hq; exact h⟩
    | 1 => obtain ⟨cC, iS, h⟩ := u_known (C := RX1) (T := TX1) (N := 5) (n := 5) hg inX1 (hg _ (g_1 38 (by decide +kernel) rfl)); exact ⟨(cC, iS), fun q hq => by cases hq; exact h⟩
    | 2 => obtain ⟨cC, iS, h⟩ := u_known (C := RX2) (T := TX2) (N := 12) (n := 12) hg inX2 (hg _ (g_1 31 (by decide +kernel) rfl)); exact ⟨(cC, iS), fun q hq => by cases hq; exact h⟩
    | 3 => obtain ⟨cC, iS, h⟩ := u_known (C := RX3) (T := TX3) (N := 18) (n := 18) hg inX3 (hg _ (g_1 219 (by decide +kernel) rfl)); exact ⟨(cC, iS), fun q hq => by cases hq; exact h⟩
    | 4 => obtain ⟨cC, iS, h⟩ := u_known (C := RX4) (T := TX4) (N := 7) (n := 7) hg inX4 (hg _ (g_2 120 (by decide +kernel) rfl)); exact ⟨(cC, iS), fun q hq => by cases hq; exact h⟩
    | 5 => obtain ⟨cC, iS, h⟩ := u_known (C := RX5) (T := TX5) (N := 7) (n := 7) hg inX5 (hg _ (g_1 121 (by decide +kernel) rfl)); exact ⟨(cC, iS), fun q hq => by cases hq; exact h⟩
    | 6 => obtain ⟨cC, iS, h⟩ := u_known (C := RX6) (T := TX6) (N := 7) (n := 7) hg inX6 (hg _ (g_2 150 (by decide +kernel) rfl)); exact ⟨(cC, iS), fun q hq => by cases hq; exact h⟩
    | 7 => obtain ⟨cC, iS, h⟩ := u_known (C := RX7) (T := TX7) (N := 2) (n := 2) hg inX7 (hg _ (g_1 229 (by decide +kernel) rfl)); exact ⟨(cC, iS), fun q hq => by cases hq; exact h⟩
    | 8 => obtain ⟨cC, iS, h⟩ := u_known (C := RX8) (T := TX8) (N := 4) (n := 4) hg inX8 (hg _ (g_1 44 (by decide +kernel) rfl)); exact ⟨(cC, iS), fun q hq => by cases hq; exact h⟩
    | 9 => obtain ⟨cC, iS, h⟩ := u_known (C := RX9) (T := TX9) (N := 9) (n := 9) hg inX9 (hg _ (g_2 84 (by decide +kernel) rfl)); exact ⟨(cC, iS), fun q hq => by cases hq; exact h⟩
    | 10 => obtain ⟨cC, iS, h⟩ := u_known (C := RX10) (T := TX10) (N := 3) (n := 3) hg inX10 (hg _ (g_1 97 (by decide +kernel) rfl)); exact ⟨(cC, iS), fun q hq => by cases hq; exact h⟩
    | 11 => obtain ⟨cC, iS, h⟩ := u_known (C := RX11) (T := TX11) (N := 14) (n := 14) hg inX11 (hg _ (g_1 23 (by decide +kernel) rfl)); exact ⟨(cC, iS), fun q hq => by cases hq; exact h⟩
    | 12 => obtain ⟨cC, iS, h⟩ := u_known (C := RX12) (T := TX12) (N := 45) (n := 45) hg inX12 (hg _ (g_6 88 (by decide +kernel) rfl)); exact ⟨(cC, iS), fun q hq => by cases hq; exact h⟩
    | k + 13 => exact ⟨(0, fun _ => 0), fun q hq => by simp [vwCl] at hq⟩
  obtain ⟨d, hd⟩ := Classical.axiomOfChoice h0
  exact ⟨(fun c => (d c).1, fun c => (d c).2), hd⟩
theorem ent_K {s : State} {a : Array Value} (hts : ∀ w ∈ lw_tbl, w.before a s = true) : ∃ (D : va_G) (dA : FieldType → ClassId), va_K D vwCl (qtys dA) s := by
  obtain ⟨dA, h1⟩ := ent_A hts
  obtain ⟨D, h2⟩ := ent_C (fun w hw => hts w (List.mem_filter.mp hw).1)
  exact ⟨D, dA, h2, h1⟩
def naW : List Cond := flatC (Jvm.Cond.and given_1 narrow_1)
theorem na_tabF : Cond.arrayOf (.static RX11 "TERM_FIRST" "[I") .int ∈ naW ∧ Cond.eq (.length (.static RX11 "TERM_FIRST" "[I")) (.int (Int32.ofNat 6)) ∈ naW ∧ ∀ j : Nat, j < 6 → Cond.eq (.elem (.static RX11 "TERM_FIRST" "[I") (.int (Int32.ofNat j))) (.int (tabF.getD j 0)) ∈ naW := by
  refine ⟨by decide +kernel, by decide +kernel, by decide +kernel⟩
theorem na_tabL : Cond.arrayOf (.static RX11 "TERM_LEAST" "[I") .int ∈ naW ∧ Cond.eq (.length (.static RX11 "TERM_LEAST" "[I")) (.int (Int32.ofNat 6)) ∈ naW ∧ ∀ j : Nat, j < 6 → Cond.eq (.elem (.static RX11 "TERM_LEAST" "[I") (.int (Int32.ofNat j))) (.int (tabL.getD j 0)) ∈ naW := by
  refine ⟨by decide +kernel, by decide +kernel, by decide +kernel⟩
theorem na_tabM : Cond.arrayOf (.static RX11 "TERM_MOST" "[I") .int ∈ naW ∧ Cond.eq (.length (.static RX11 "TERM_MOST" "[I")) (.int (Int32.ofNat 6)) ∈ naW ∧ ∀ j : Nat, j < 6 → Cond.eq (.elem (.static RX11 "TERM_MOST" "[I") (.int (Int32.ofNat j))) (.int (tabM.getD j 0)) ∈ naW := by
  refine ⟨by decide +kernel, by decide +kernel, by decide +kernel⟩
def stM (i : Nat) : Term := .string RX6 (strT.getD i (0, "")).1
theorem na_s1 : ∀ i : Nat, i < 12 → Cond.exactly (stM i) "java/lang/String" ∈ naW := by decide +kernel
theorem na_s2 : ∀ i : Nat, i < 12 → Cond.eq (.field (stM i) "java/lang/String" "coder" "B") (.int 0) ∈ naW := by decide +kernel
theorem na_s3 : ∀ i : Nat, i < 12 → Cond.arrayOf (.field (stM i) "java/lang/String" "value" "[B") .byte ∈ naW := by decide +kernel
theorem na_s4 : ∀ i : Nat, i < 12 → Cond.eq (.length (.field (stM i) "java/lang/String" "value" "[B")) (.int (Int32.ofNat ((strB.map List.length).getD i 0))) ∈ naW := by decide +kernel
theorem na_s5 : ∀ i : Nat, i < 12 → ∀ j : Nat, j < (strB.map List.length).getD i 0 → Cond.eq (.elem (.field (stM i) "java/lang/String" "value" "[B") (.int (Int32.ofNat j))) (.int ((strB.getD i []).getD j 0)) ∈ naW := by decide +kernel

def prW : Cond → Option (Nat × Nat)
  | .not (.eq (.string c k) (.string d j)) => if c = RX6 ∧ d = RX6 then some (k, j) else none
  | _ => none
theorem prW_spec {w : Cond} {q : Nat × Nat} (h : prW w = some q) : w = .not (.eq (.string RX6 q.1) (.string RX6 q.2)) := by
  unfold prW at h
  split at h
  · split at h
    · rename_i z
      cases h
      rw [z.1, z.2]
    · cases h
  · cases h
def prL : List (Nat × Nat) := [(70, 76), (70, 78), (76, 78), (70, 113), (76, 113), (78, 113), (70, 111), (76, 111), (78, 111), (113, 111), (70, 99), (76, 99), (78, 99), (113, 99), (111, 99), (70, 135), (76, 135), (78, 135), (113, 135), (111, 135), (99, 135), (70, 137), (76, 137), (78, 137), (113, 137), (111, 137), (99, 137), (135, 137), (70, 139), (76, 139), (78, 139), (113, 139), (111, 139), (99, 139), (135, 139), (137, 139), (70, 141), (76, 141), (78, 141), (113, 141), (111, 141), (99, 141), (135, 141), (137, 141), (139, 141), (70, 143), (76, 143), (78, 143), (113, 143), (111, 143), (99, 143), (135, 143), (137, 143), (139, 143), (141, 143), (70, 87), (76, 87), (78, 87), (113, 87), (111, 87), (99, 87), (135, 87), (137, 87), (139, 87), (141, 87), (143, 87)]
theorem prs_eq : naW.filterMap prW = prL := by decide +kernel
theorem prL_all : ∀ i : Nat, i < 12 → ∀ j : Nat, j < 12 → i = j ∨ ((strT.getD i (0, "")).1, (strT.getD j (0, "")).1) ∈ prL ∨ ((strT.getD j (0, "")).1, (strT.getD i (0, "")).1) ∈ prL := by decide +kernel
theorem prL_mem {k j : Nat} (h : (k, j) ∈ prL) : Cond.not (Cond.eq (.string RX6 k) (.string RX6 j)) ∈ naW := by
  rw [← prs_eq] at h
  obtain ⟨w, h1, h2⟩ := List.mem_filterMap.mp h
  rw [prW_spec h2] at h1
  exact h1
theorem na_s6 (i : Nat) (hi : i < 12) (j : Nat) (hj : j < 12) (hne : i ≠ j) : Cond.not (Cond.eq (stM i) (stM j)) ∈ naW ∨ Cond.not (Cond.eq (stM j) (stM i)) ∈ naW := by
  rcases prL_all i hi j hj with h | h | h
  · exact absurd h hne
  · exact Or.inl (prL_mem h)
  · exact Or.inr (prL_mem h)
theorem na_len : ∀ i : Nat, i < 12 → (strB.map List.length).getD i 0 < 2 ^ 31 := by decide +kernel
theorem na_c : Cond.eq (.static "java/lang/String" "COMPACT_STRINGS" "Z") (.int 1) ∈ naW := by decide +kernel
theorem na_q : Cond.isRef (.static "jdk/internal/util/Preconditions" "SIOOBE_FORMATTER" "Ljava/util/function/BiFunction;") ∈ naW := by decide +kernel
theorem sr_all : ∀ (i : Nat) (q : Nat × String), strT[i]? = some q → Cond.stringRef RX6 q.1 q.2 ∈ lw_tbl ∧ stM i = .string RX6 q.1 ∧ i < 12 := by
  intro i q h
  match i, h with
  | 0, h => cases h; exact ⟨t_4 12 (by decide +kernel), rfl, by decide⟩
  | 1, h => cases h; exact ⟨t_4 65 (by decide +kernel), rfl, by decide⟩
  | 2, h => cases h; exact ⟨t_4 66 (by decide +kernel), rfl, by decide⟩
  | 3, h => cases h; exact ⟨t_4 127 (by decide +kernel), rfl, by decide⟩
  | 4, h => cases h; exact ⟨t_4 113 (by decide +kernel), rfl, by decide⟩
  | 5, h => cases h; exact ⟨t_4 108 (by decide +kernel), rfl, by decide⟩
  | 6, h => cases h; exact ⟨t_4 99 (by decide +kernel), rfl, by decide⟩
  | 7, h => cases h; exact ⟨t_4 122 (by decide +kernel), rfl, by decide⟩
  | 8, h => cases h; exact ⟨t_4 123 (by decide +kernel), rfl, by decide⟩
  | 9, h => cases h; exact ⟨t_4 124 (by decide +kernel), rfl, by decide⟩
  | 10, h => cases h; exact ⟨t_4 125 (by decide +kernel), rfl, by decide⟩
  | 11, h => cases h; exact ⟨t_4 126 (by decide +kernel), rfl, by decide⟩
  | k + 12, h => simp [strT] at h
def entF (t1 t2 t3 t5 : Nat) (adK adV : Nat → Nat) : Nat → Nat := fun k => if k = 1000 then t1 else if k = 1001 then t2 else if k = 1002 then t3 else if k = 1050 then t5 else if k < 1030 then adK (k - 1010) else adV (k - 1030)
def enC (h : Nat) (f : Nat → Nat) : Nat → Nat := fun k => if k < 1000 then h + k else f k
def enM (h : Nat) : Nat → Nat := fun k => h + 171 + k
theorem Xc.narrow {ad : Nat → Nat} {A B : Nat → Prop} {U : State} (h : Xc ad A U) (hAB : ∀ q, B q → A q) : Xc ad B U := by
  obtain ⟨⟨z1, t1⟩, ⟨z2, t2⟩, ⟨z3, t3⟩, ⟨z4, z5⟩, k, r⟩ := h
  exact ⟨⟨z1.narrow hAB, t1.narrow hAB⟩, ⟨z2.narrow hAB, t2.narrow hAB⟩, ⟨z3.narrow hAB, t3.narrow hAB⟩, ⟨z4.narrow hAB, z5.imp (fun z => z.narrow hAB) (fun z => z.narrow hAB)⟩, k.narrow hAB, r⟩
theorem ent_X {s : State} {a : Array Value} {A : Nat → Prop} (hts : ∀ w ∈ lw_tbl, w.before a s = true) (hgv : (Jvm.Cond.and given_1 narrow_1).before a s = true) (hA : ∀ a : Nat, a < s.heap.size → ¬ A a) : ∃ f : Nat → Nat, ∀ h, Xc (enC h f) A s := by
  have hs : ∀ w ∈ naW, w.before a s = true := flat_of_before _ hgv
  obtain ⟨t1, e1, T1⟩ := va_Tof (tm := .static RX11 "TERM_FIRST" "[I") (ty := .int) (N := 6) (f := fun j => .int (tabF.getD j 0)) (A := A) (by decide) (hs _ na_tabF.1) (va_eqt (hs _ na_tabF.2.1)) (fun j hj => va_eqt (hs _ (na_tabF.2.2 j hj))) hA
  obtain ⟨t2, e2, T2⟩ := va_Tof (tm := .static RX11 "TERM_LEAST" "[I") (ty := .int) (N := 6) (f := fun j => .int (tabL.getD j 0)) (A := A) (by decide) (hs _ na_tabL.1) (va_eqt (hs _ na_tabL.2.1)) (fun j hj => va_eqt (hs _ (na_tabL.2.2 j hj))) hA
  obtain ⟨t3, e3, T3⟩ := va_Tof (tm := .static RX11 "TERM_MOST" "[I") (ty := .int) (N := 6) (f := fun j => .int (tabM.getD j 0)) (A := A) (by decide) (hs _ na_tabM.1) (va_eqt (hs _ na_tabM.2.1)) (fun j hj => va_eqt (hs _ (na_tabM.2.2 j hj))) hA
  obtain ⟨adK, adV, hk, he⟩ := vk_Sof (N := 12) (tm := stM) (len := strB.map List.length) (byt := strB) (A := A) na_len (fun i hi => hs _ (na_s1 i hi)) (fun i hi => hs _ (na_s2 i hi)) (fun i hi => hs _ (na_s3 i hi)) (fun i hi => hs _ (na_s4 i hi)) (fun i hi j hj => hs _ (na_s5 i hi j hj)) (fun i j hi hj hne => by
    rcases na_s6 i hi j hj hne with q | q
    · exact Or.inl (hs _ q)
    · exact Or.inr (hs _ q)) hA
  obtain ⟨t5, hq⟩ : ∃ t5 : Nat, va_Z "jdk/internal/util/Preconditions" "SIOOBE_FORMATTER" "Ljava/util/function/BiFunction;" .null A s s.heap ∨ va_Z "jdk/internal/util/Preconditions" "SIOOBE_FORMATTER" "Ljava/util/function/BiFunction;" (.ref t5) A s s.heap := by
    rcases va_Zqof (A := A) (hts _ (t_4 42 (by decide +kernel))) (hts _ (t_1 20 (by decide +kernel))) (hs _ na_q) hA with z | ⟨t, z⟩
    · exact ⟨0, Or.inl z⟩
    · exact ⟨t, Or.inr z⟩
  refine ⟨entF t1 t2 t3 t5 adK adV, fun h => ?_⟩
  have eK : ∀ k, k < 12 → enC h (entF t1 t2 t3 t5 adK adV) (1010 + k) = adK k := by
    intro k hk
    show (if 1010 + k < 1000 then _ else if 1010 + k = 1000 then t1 else if 1010 + k = 1001 then t2 else if 1010 + k = 1002 then t3 else if 1010 + k = 1050 then t5 else if 1010 + k < 1030 then adK (1010 + k - 1010) else adV (1010 + k - 1030)) = _
    rw [if_neg (by omega), if_neg (by omega), if_neg (by omega), if_neg (by omega), if_neg (by omega), if_pos (by omega), Nat.add_sub_cancel_left]
  have eV : ∀ k, k < 12 → enC h (entF t1 t2 t3 t5 adK adV) (1030 + k) = adV k := by
    intro k hk
    show (if 1030 + k < 1000 then _ else if 1030 + k = 1000 then t1 else if 1030 + k = 1001 then t2 else if 1030 + k = 1002 then t3 else if 1030 + k = 1050 then t5 else if 1030 + k < 1030 then adK (1030 + k - 1010) else adV (1030 + k - 1030)) = _
    rw [if_neg (by omega), if_neg (by omega), if_neg (by omega), if_neg (by omega), if_neg (by omega), if_neg (by omega), Nat.add_sub_cancel_left]
  refine ⟨⟨va_Zref (hts _ (t_1 117 (by decide +kernel))) (hts _ (t_1 1 (by decide +kernel))) e1 hA, T1⟩, ⟨va_Zref (hts _ (t_3 67 (by decide +kernel))) (hts _ (t_1 1 (by decide +kernel))) e2 hA, T2⟩, ⟨va_Zref (hts _ (t_3 69 (by decide +kernel))) (hts _ (t_1 1 (by decide +kernel))) e3 hA, T3⟩, ⟨va_Zof (hts _ (t_4 26 (by decide +kernel))) (hts _ (t_1 18 (by decide +kernel))) (va_eqi (hs _ na_c)) hA, hq⟩, ?_, fun i q hi => ?_⟩
  · refine ⟨fun i hi => ?_, fun i j hi hj e => ?_⟩
    · show va_O "java/lang/String" (enC h (entF t1 t2 t3 t5 adK adV) (1010 + i)) A s s.heap ∧ va_OF "java/lang/String" "coder" "B" (.int 0) (enC h (entF t1 t2 t3 t5 adK adV) (1010 + i)) A s s.heap ∧ va_OF "java/lang/String" "value" "[B" (.ref (enC h (entF t1 t2 t3 t5 adK adV) (1030 + i))) (enC h (entF t1 t2 t3 t5 adK adV) (1010 + i)) A s s.heap ∧ va_T .byte (enC h (entF t1 t2 t3 t5 adK adV) (1030 + i)) ((strB.map List.length).getD i 0) (fun j => .int ((strB.getD i []).getD j 0)) A s s.heap
      rw [eK i hi, eV i hi]
      exact hk.1 i hi
    · have e' : enC h (entF t1 t2 t3 t5 adK adV) (1010 + i) = enC h (entF t1 t2 t3 t5 adK adV) (1010 + j) := e
      rw [eK i hi, eK j hj] at e'
      exact hk.2 i j hi hj e'
  · obtain ⟨h1, h2, h3⟩ := sr_all i q hi
    rw [eK i h3]
    exact vk_R.of (hts _ h1) (by rw [← h2]; exact he i h3)
theorem x_run {S : qWo} {p : Program} {l : Launch} {e : Env} {R : Room} {s : State} {m : MethodId} {args : Array Value} {below : List Frame} {meth : Method} {c : Code} {H : Heap} {locs : List Loc} {Q : State → Prop} {ls : Array Slot} {stk rest : List Value} {D : va_G} {ad : Nat → Nat} {dA : FieldType → ClassId} {ρ0 : qMem} {a0 : Array Value} {b0 n1 mc1 ms1 cl sl pc : Nat}
    (hr : va_Run p l e R s m args below meth c H locs cl sl mc1 ms1 (F0 m pc ls stk) rest (qQn S D ad dA b0 n1 (ρv ρ0) a0) (fun q => b0 ≤ q)) (hS : va_S (fun q => s.heap.size ≤ q) s.heap H locs) (hb0 : s.heap.size ≤ b0)
    (kk : ∀ (H1 : Heap) (locs1 : List Loc), va_P D vwCl (dW S ad dA ρ0 n1) H1 → (∀ q : Nat, q < H.size → ¬ b0 ≤ q → H1[q]? = H[q]?) → va_S (fun q => s.heap.size ≤ q) s.heap H1 locs1 → W p l e R s m args below meth c H1 locs1 (cl + mc1) (sl + ms1) Q (F0 m (pc + 3) ls rest)) : W p l e R s m args below meth c H locs cl sl Q (F0 m pc ls stk) := by
  intro T hT X
  obtain ⟨v, st₀, t, T', L, h0, X', hL, e1, e2, ⟨⟨hv, hp⟩, hz, hk⟩, st⟩ := hr T hT X
  cases hv
  rw [h0] at hz hk
  obtain ⟨t2, a1, b1⟩ := kk T'.heap (locs ++ L) (by rw [e1]; exact hp) (fun q h1 h2 => by rw [e1]; exact hk q h1 h2)
    ⟨Nat.le_trans hS.1 (by rw [e1]; exact hz), fun q h1 h2 => by rw [e1, hk q (Nat.lt_of_lt_of_le h1 hS.1) (fun z => h2 (Nat.le_trans hb0 z))]; exact hS.2.1 q h1 h2, fun q hq => by
      rcases List.mem_append.mp hq with h | h
      · exact hS.2.2 q h
      · exact Nat.le_trans hb0 (hL q h)⟩ T' rfl X'
  exact ⟨t2, st t2 a1, b1⟩
theorem dW_0 {S : qWo} {ad : Nat → Nat} {dA : FieldType → ClassId} {σ : qMem} : dW S ad dA σ 0 = [] := by
  unfold dW
  rw [List.take_zero]; rfl
theorem x_new {S : qWo} {p : Program} {l : Launch} {e : Env} {R : Room} {s : State} {m : MethodId} {args : Array Value} {below : List Frame} {meth : Method} {c : Code} {H : Heap} {locs : List Loc} {Q : State → Prop} {ls : Array Slot} {stk : List Value} {D : va_G} {ad : Nat → Nat} {dA : FieldType → ClassId} {b0 cl sl pc idx ci N : Nat} {ty : Nat → FieldType} {ks : List (Nat ⊕ Nat)}
    (hx : p.tables.exec = Jvm.exec) (hb : c.code = code) (hown : s.vm.findClass R_law = some m.cls) (hg : ∀ w ∈ gws, w.before args s = true) (hK : va_K D vwCl (qtys dA) s) (hd : decode code pc = .ok (.new idx, 3)) (hc : cOK R_law idx ci N ty) (hs : S.1[0]? = some (.inr (ci, ks))) (hk : ks.map kd0 = (List.range N).map (fun j => defaultValue (ty j))) (hR : cl + 1 ≤ R.cells ∧ sl + N ≤ R.slots) (hH : H.size = b0) (had : ad 0 = b0)
    (kk : ∀ H1 : Heap, va_P D vwCl (dW S ad dA ini0 1) H1 → H1.size = b0 + 1 → (∀ q, q < b0 → H1[q]? = H[q]?) → W p l e R s m args below meth c H1 locs (cl + 1) (sl + N) Q (F0 m (pc + 3) ls (.ref b0 :: stk))) : W p l e R s m args below meth c H locs cl sl Q (F0 m pc ls stk) := by
  obtain ⟨C, T, h1, h2, h3, h4, h5, h6⟩ := hc
  have hKn := hK.1 ci _ h1
  refine W.newcK hx hb hown (hg _ h4) (hg _ h5) (hg _ h6) rfl hd hR.1 hR.2 hKn.2.1 hH fun H1 kC hkC e1 z1 o1 => ?_
  refine kk H1 ?_ z1 o1
  rw [dW_push hs, dW_0]
  intro j x hx
  have hj : j < 1 := (List.getElem?_eq_some_iff.mp hx).1
  rw [show j = 0 by omega] at hx
  cases hx
  rw [← had] at e1
  refine ⟨_, h1, (u_born ty hg h2 hKn hkC e1 h3).to (fun j hj => ?_)⟩
  have q1 : (ks.map kd0)[j]? = some (defaultValue (ty j)) := by rw [hk, List.getElem?_map, List.getElem?_range hj]; rfl
  have q2 : (ks.mapIdx (fW ad ini0 0))[j]? = (ks.map kd0)[j]? := by
    rw [List.getElem?_mapIdx, List.getElem?_map]
    cases ks[j]? with
    | none => rfl
    | some kd => exact congrArg some (fW_0 rfl rfl kd)
  show defaultValue (ty j) = vp_V (ks.mapIdx (fW ad ini0 0)) j
  simp [vp_V, q2, q1]
theorem qZ0 : qZ ini0 1 := fun _ _ => ⟨fun _ => rfl, fun _ => rfl⟩
theorem coL_X11 : cOK R_law 7 11 14 tyX11 := ⟨RX11, TX11, rfl, inX11, tyX11_ok, g_1 22 (by decide +kernel) rfl, g_1 23 (by decide +kernel) rfl, g_1 1 (by decide +kernel) rfl⟩
theorem coL_X12 : cOK R_law 10 12 45 tyX12 := ⟨RX12, TX12, rfl, inX12, tyX12_ok, g_6 87 (by decide +kernel) rfl, g_6 88 (by decide +kernel) rfl, g_1 16 (by decide +kernel) rfl⟩
theorem siL_X11 : sI R_law 9 mX11_init 0 := ⟨moX11_init, show (parseMethodDescriptor yX11_init.desc).map (fun d => d.parameters.length) = some 0 by decide +kernel, rfl, rfl, show Cond.instanceMethod yX11_init ∈ gws from g_1 25 (by decide +kernel) rfl, Or.inl (show Cond.methodLink R_law 9 yX11_init ∈ gws from g_1 24 (by decide +kernel) rfl)⟩
theorem siL_X12 : sI R_law 12 mX12_init 0 := ⟨moX12_init, show (parseMethodDescriptor yX12_init.desc).map (fun d => d.parameters.length) = some 0 by decide +kernel, rfl, rfl, show Cond.instanceMethod yX12_init ∈ gws from g_6 90 (by decide +kernel) rfl, Or.inl (show Cond.methodLink R_law 12 yX12_init ∈ gws from g_6 89 (by decide +kernel) rfl)⟩
