/-! THE CLAIM OUT OF ONE WALK OF THE LAW'S BODY. Your part is whole_start (and what it stands on); all else here is the same for every law, but numbers. -/
def R_law : String := "HullEarsLaw"
def lw_P (b : Addr) (xs : List Int32) (args : Array Value) (s : State) : Prop := args = #[.ref b] ∧ s.IntsAt b xs ∧ xs.length ≤ 3072 ∧ (Jvm.Cond.and given_1 narrow_1).before args s = true
def lw_Q (_ : Array Value) (s : State) (o : Outcome) (t : State) : Prop := o = .returned (some (.int 1)) ∧ Framed s o t [] 600000 7302250
def lw_Z (below : List Frame) (a : Array Value) (s : State) : State → Prop := fun t => ∃ o, t.status = .running ∧ Ended t below o ∧ lw_Q a s o t
/-- the law's own end, with 1 on the stack, nothing written that was there before, its room as the claim has it -/
theorem lw_ret {p : Program} {l : Launch} {e : Env} {s : State} {m : MethodId} {below : List Frame} {meth : Method} {c : Code} {b : Nat} (hx : p.tables.exec = Jvm.exec) (hb : c.code = code) (hr : meth.sig.returnType = ret) (hlocks : meth.locks = false) {pc : Nat} {H : Heap} {ls : Array Slot} (hdg : decode code pc = .ok (.ireturn, 1)) : W p l e room_1 s m #[Value.ref b] below meth c H [] 600000 7302250 (lw_Z below #[Value.ref b] s) (F0 m pc ls [.int 1]) := by
  intro T hT X
  obtain ⟨fs, hret, hrun, hended, hW, hframe⟩ := X.leave (v := some (.int 1)) (hlocks := hlocks) (fun h => by rw [hr] at h; cases h)
  have hmeth' : T.vm.method? m = some meth := X.method'
  refine ⟨T.setFrames fs, ?_, .returned (some (.int 1)), hrun, hended, rfl, ⟨_, rfl⟩, hW, hframe⟩
  jvm_step X.here [X.here.top, hx, hb, hdg, hmeth', hr, ret, narrow_b1]
  (try refine ⟨rfl, ?_⟩); (try refine ⟨rfl, ?_⟩)
  first | (intro acts; rw [hret _ acts rfl rfl rfl]) | rw [hret _ _ rfl rfl rfl]
  exact Steps.refl _
/-- what holds at the law's entry: the machine, the code, the tables' words (any of lw_tbl by 'hts w (by decide +kernel)'), the script of L ints xs at the cell b, what the Statement gives of the start (any of its parts by flat_of_before) -/
def lw_At (p : Program) (s : State) (m : MethodId) (meth : Method) (c : Code) (b L : Nat) (xs : Nat → Int32) : Prop :=
  p.tables.exec = Jvm.exec ∧ c.code = code ∧ meth.sig.returnType = ret ∧ c.maxLocals = 4 ∧ s.vm.findClass R_law = some m.cls ∧ (∀ w ∈ lw_tbl, w.before #[Value.ref b] s = true) ∧ va_X b L xs s s.heap ∧ b < s.heap.size ∧ meth.locks = false ∧ (Jvm.Cond.and given_1 narrow_1).before #[Value.ref b] s = true
/-! the law's own judgement: both systems side by side -/
def adL (adC adM : Nat → Nat) (b : Nat) : Nat → Nat := fun k => if k = 0 then adC 0 else if k = 1 then adM 0 else b
def qLx (p : Program) (s : State) (m : MethodId) (meth : Method) (c : Code) (b L : Nat) (xs : Nat → Int32) (D : va_G) (adC adM : Nat → Nat) (dA : FieldType → ClassId) : Prop :=
  lw_At p s m meth c b L xs ∧ va_K D vwCl (qtys dA) s ∧ qInj wC adC ∧ qInj wM adM ∧ (∀ i j, i < wC.1.length → j < wM.1.length → adC i ≠ adM j) ∧ (∀ k, k < wC.1.length → s.heap.size ≤ adC k) ∧ (∀ k, k < wM.1.length → s.heap.size ≤ adM k) ∧ qEx wC adC s ∧ qEx wM adM s ∧ ∀ w ∈ gws, w.before #[Value.ref b] s = true
def qL (L : Nat) (xs : Nat → Int32) (pc : Nat) (Lc : List (Nat × Value)) (st : List Value) (σC σM : qMem) : Prop :=
  ∀ (p : Program) (l : Launch) (e : Env) (s : State) (m : MethodId) (below : List Frame) (meth : Method) (c : Code) (b : Nat) (D : va_G) (adC adM : Nat → Nat) (dA : FieldType → ClassId), qLx p s m meth c b L xs D adC adM dA →
    ∀ (H : Heap) (locs : List Loc) (ls : Array Slot), va_P D vwCl (cW wC adC dA σC) H → va_P D vwCl (cW wM adM dA σM) H → va_S (fun q => s.heap.size ≤ q) s.heap H locs → lv_has ls 4 (cL (adL adC adM b) Lc) →
      W p l e room_1 s m #[Value.ref b] below meth c H locs 300 200000 (lw_Z below #[Value.ref b] s) (F0 m pc ls (st.map (cV (adL adC adM b))))
section QL
variable {L : Nat} {xs : Nat → Int32} {pc : Nat} {Lc : List (Nat × Value)} {st : List Value} {σC σM : qMem}

theorem l_iconst {v0 : Int} {v : Int32} (hd : decode code pc = .ok (.iconst v0, 1)) (hv : Int32.ofInt v0 = v) (k : qL L xs (pc + 1) Lc (.int v :: st) σC σM) : qL L xs pc Lc (st) σC σM := by
  intro p l e s m below meth c b D adC adM dA hF H locs ls hP hQ hS hl
  exact lv_iconst hF.1.1 hF.1.2.1 hd hv (k p l e s m below meth c b D adC adM dA hF H locs ls hP hQ hS hl)
theorem l_bipush {v0 : Int} {v : Int32} (hd : decode code pc = .ok (.bipush v0, 2)) (hv : (Int8.ofInt v0).toInt32 = v) (k : qL L xs (pc + 2) Lc (.int v :: st) σC σM) : qL L xs pc Lc (st) σC σM := by
  intro p l e s m below meth c b D adC adM dA hF H locs ls hP hQ hS hl
  exact lv_bipush hF.1.1 hF.1.2.1 hd hv (k p l e s m below meth c b D adC adM dA hF H locs ls hP hQ hS hl)
theorem l_iload_n {kk : Fin 4} {i : Nat} {x : Int32} (hd : decode code pc = .ok (.iload_n kk, 1)) (hi : (kk : Nat) = i) (q : Nat) (hq : Lc[q]? = some (i, .int x)) (k : qL L xs (pc + 1) Lc (.int x :: st) σC σM) : qL L xs pc Lc (st) σC σM := by
  intro p l e s m below meth c b D adC adM dA hF H locs ls hP hQ hS hl
  exact lv_iload_n hF.1.1 hF.1.2.1 hd hi (q_lv hl q hq) (k p l e s m below meth c b D adC adM dA hF H locs ls hP hQ hS hl)
theorem l_aload_n {kk : Fin 4} {i : Nat} {x : Nat} (hd : decode code pc = .ok (.aload_n kk, 1)) (hi : (kk : Nat) = i) (q : Nat) (hq : Lc[q]? = some (i, .ref x)) (k : qL L xs (pc + 1) Lc (.ref x :: st) σC σM) : qL L xs pc Lc (st) σC σM := by
  intro p l e s m below meth c b D adC adM dA hF H locs ls hP hQ hS hl
  exact lv_aload_n hF.1.1 hF.1.2.1 hd hi (q_lv hl q hq) (k p l e s m below meth c b D adC adM dA hF H locs ls hP hQ hS hl)
theorem l_iadd {x y : Int32} (hd : decode code pc = .ok (.iadd, 1))  (k : qL L xs (pc + 1) Lc (.int (x + y) :: st) σC σM) : qL L xs pc Lc (.int y :: .int x :: st) σC σM := by
  intro p l e s m below meth c b D adC adM dA hF H locs ls hP hQ hS hl
  exact lv_iadd hF.1.1 hF.1.2.1 hd (k p l e s m below meth c b D adC adM dA hF H locs ls hP hQ hS hl)
theorem l_isub {x y : Int32} (hd : decode code pc = .ok (.isub, 1))  (k : qL L xs (pc + 1) Lc (.int (x - y) :: st) σC σM) : qL L xs pc Lc (.int y :: .int x :: st) σC σM := by
  intro p l e s m below meth c b D adC adM dA hF H locs ls hP hQ hS hl
  exact lv_isub hF.1.1 hF.1.2.1 hd (k p l e s m below meth c b D adC adM dA hF H locs ls hP hQ hS hl)
theorem l_iand {x y : Int32} (hd : decode code pc = .ok (.iand, 1))  (k : qL L xs (pc + 1) Lc (.int (x &&& y) :: st) σC σM) : qL L xs pc Lc (.int y :: .int x :: st) σC σM := by
  intro p l e s m below meth c b D adC adM dA hF H locs ls hP hQ hS hl
  exact lv_iand hF.1.1 hF.1.2.1 hd (k p l e s m below meth c b D adC adM dA hF H locs ls hP hQ hS hl)
theorem l_lcmp {x y : Int64} (hd : decode code pc = .ok (.lcmp, 1))  (k : qL L xs (pc + 1) Lc (.int (lg_cmp x y) :: st) σC σM) : qL L xs pc Lc (.long y :: .long x :: st) σC σM := by
  intro p l e s m below meth c b D adC adM dA hF H locs ls hP hQ hS hl
  exact W.lcmp hF.1.1 hF.1.2.1 hd (k p l e s m below meth c b D adC adM dA hF H locs ls hP hQ hS hl)
theorem l_goto {off : Int} {tgt : Nat} (hd : decode code pc = .ok (.goto off, 3)) (ht : (pc : Int) + off = (tgt : Int)) (k : qL L xs (tgt) Lc (st) σC σM) : qL L xs pc Lc (st) σC σM := by
  intro p l e s m below meth c b D adC adM dA hF H locs ls hP hQ hS hl
  exact lv_goto hF.1.1 hF.1.2.1 hd ht (k p l e s m below meth c b D adC adM dA hF H locs ls hP hQ hS hl)
theorem l_sld {i : Int32} (hd : decode code pc = .ok (.iaload, 1)) (hin : vp_in i L) (k : qL L xs (pc + 1) Lc (.int (xs i.toNatClampNeg) :: st) σC σM) : qL L xs pc Lc (.int i :: .ref 2 :: st) σC σM := by
  intro p l e s m below meth c b D adC adM dA hF H locs ls hP hQ hS hl
  exact va_sld hF.1.1 hF.1.2.1 hF.1.2.2.2.2.2.2.1 hF.1.2.2.2.2.2.2.2.1 (Nat.not_le.mpr hF.1.2.2.2.2.2.2.2.1) hS hin hd (k p l e s m below meth c b D adC adM dA hF H locs ls hP hQ hS hl)
theorem l_slen  (hd : decode code pc = .ok (.arraylength, 1))  (k : qL L xs (pc + 1) Lc (.int (Int32.ofNat L) :: st) σC σM) : qL L xs pc Lc (.ref 2 :: st) σC σM := by
  intro p l e s m below meth c b D adC adM dA hF H locs ls hP hQ hS hl
  exact va_slen hF.1.1 hF.1.2.1 hF.1.2.2.2.2.2.2.1 hF.1.2.2.2.2.2.2.2.1 (Nat.not_le.mpr hF.1.2.2.2.2.2.2.2.1) hS hd (k p l e s m below meth c b D adC adM dA hF H locs ls hP hQ hS hl)
theorem l_iinc {i : Nat} {v0 : Int} {x v : Int32} {L' : List (Nat × Value)} (hd : decode code pc = .ok (.iinc i v0, 3)) (q : Nat) (hq : Lc[q]? = some (i, .int x)) (hv : x + Int32.ofInt v0 = v) (hn : i < 4) (hL : (i, Value.int v) :: Lc.filter (fun q => !(q.1 == i) && !(q.1 + 1 == i && q.2.category == 2)) = L') (k : qL L xs (pc + 3) L' st σC σM) : qL L xs pc Lc st σC σM := by
  intro p l e s m below meth c b D adC adM dA hF H locs ls hP hQ hS hl
  subst hL
  refine lv_iinc (k := q) (lv' := cL (adL adC adM b) ((i, Value.int v) :: Lc.filter (fun q => !(q.1 == i) && !(q.1 + 1 == i && q.2.category == 2)))) hF.1.1 hF.1.2.1 hd hl (by unfold cL; rw [List.getElem?_map, hq]; rfl) hv hn (by rw [q_cLf]; rfl) (fun ls' hl' => ?_)
  exact k p l e s m below meth c b D adC adM dA hF H locs ls' hP hQ hS hl'
theorem l_eq {x y : Int32} {off : Int} {tgt : Nat} (hd : decode code pc = .ok (.if_icmp .eq off, 3)) (ht : (pc : Int) + off = (tgt : Int)) (h : x = y) (k : qL L xs tgt Lc st σC σM) : qL L xs pc Lc (.int y :: .int x :: st) σC σM := by
  intro p l e s m below meth c b D adC adM dA hF H locs ls hP hQ hS hl
  exact lv_icmp_eq hF.1.1 hF.1.2.1 hd ht (fun _ => (k p l e s m below meth c b D adC adM dA hF H locs ls hP hQ hS hl)) (fun z => absurd h z)
theorem l_if0 {x : Int32} {off : Int} {tgt : Nat} (hd : decode code pc = .ok (.ifCond .eq off, 3)) (ht : (pc : Int) + off = (tgt : Int)) (h : x = 0) (k : qL L xs tgt Lc st σC σM) : qL L xs pc Lc (.int x :: st) σC σM := by
  intro p l e s m below meth c b D adC adM dA hF H locs ls hP hQ hS hl
  exact lv_if_eq hF.1.1 hF.1.2.1 hd ht (fun _ => (k p l e s m below meth c b D adC adM dA hF H locs ls hP hQ hS hl)) (fun z => absurd h z)
theorem l_gt {x y : Int32} {off : Int} {tgt : Nat} (hd : decode code pc = .ok (.if_icmp .gt off, 3)) (ht : (pc : Int) + off = (tgt : Int)) (kt : y < x → qL L xs tgt Lc st σC σM) (kf : ¬ y < x → qL L xs (pc + 3) Lc st σC σM) : qL L xs pc Lc (.int y :: .int x :: st) σC σM := by
  intro p l e s m below meth c b D adC adM dA hF H locs ls hP hQ hS hl
  exact lv_icmp_gt hF.1.1 hF.1.2.1 hd ht (fun h => kt h p l e s m below meth c b D adC adM dA hF H locs ls hP hQ hS hl) (fun h => kf h p l e s m below meth c b D adC adM dA hF H locs ls hP hQ hS hl)
theorem l_tin {dflt lo hi : Int} {offs : Array Int} {len : Nat} {x : Int32} {off : Int} {tgt : Nat} (hd : decode code pc = .ok (.tableswitch dflt lo hi offs, len)) (h1 : ¬ x.toInt < lo) (h2 : ¬ hi < x.toInt) (ho : offs[(x.toInt - lo).toNat]? = some off) (ht : (pc : Int) + off = (tgt : Int)) (k : qL L xs tgt Lc st σC σM) : qL L xs pc Lc (.int x :: st) σC σM := by
  intro p l e s m below meth c b D adC adM dA hF H locs ls hP hQ hS hl
  exact lv_tableIn hF.1.1 hF.1.2.1 hd h1 h2 ho ht (k p l e s m below meth c b D adC adM dA hF H locs ls hP hQ hS hl)
theorem l_tout {dflt lo hi : Int} {offs : Array Int} {len : Nat} {x : Int32} {tgt : Nat} (hd : decode code pc = .ok (.tableswitch dflt lo hi offs, len)) (h : x.toInt < lo ∨ hi < x.toInt) (ht : (pc : Int) + dflt = (tgt : Int)) (k : qL L xs tgt Lc st σC σM) : qL L xs pc Lc (.int x :: st) σC σM := by
  intro p l e s m below meth c b D adC adM dA hF H locs ls hP hQ hS hl
  exact lv_tableOut hF.1.1 hF.1.2.1 hd h ht (k p l e s m below meth c b D adC adM dA hF H locs ls hP hQ hS hl)
theorem l_end {v0 : Int} {pc2 : Nat} (hd : decode code pc = .ok (.iconst v0, 1)) (hv : Int32.ofInt v0 = 1) (h2 : pc + 1 = pc2) (hd2 : decode code pc2 = .ok (.ireturn, 1)) : qL L xs pc Lc [] σC σM := by
  intro p l e s m below meth c b D adC adM dA hF H locs ls hP hQ hS hl
  refine lv_iconst (v := 1) hF.1.1 hF.1.2.1 hd hv ?_
  refine va_forget (fun q hq => hS.2.2 q hq) ?_
  refine W.widen (k := 600000) (n := 7302250) (by decide) (by decide) ?_
  rw [h2]
  exact lw_ret hF.1.1 hF.1.2.1 hF.1.2.2.1 hF.1.2.2.2.2.2.2.2.2.1 hd2

theorem l_run {S : qWo} {p : Program} {l : Launch} {e : Env} {R : Room} {s : State} {m : MethodId} {args : Array Value} {below : List Frame} {meth : Method} {c : Code} {H : Heap} {locs : List Loc} {Q : State → Prop} {ls : Array Slot} {stk rest : List Value} {D : va_G} {ad : Nat → Nat} {dA : FieldType → ClassId} {ρ0 : Option Value × qMem} {a0 : Array Value} {cl sl : Nat}
    (hr : va_Run p l e R s m args below meth c H locs cl sl 0 0 (F0 m pc ls stk) rest (qQc S D ad dA ρ0 a0) (Aw S ad)) (hS : va_S (fun q => s.heap.size ≤ q) s.heap H locs) (hA : ∀ q, Aw S ad q → s.heap.size ≤ q)
    (kk : ∀ (H1 : Heap) (locs1 : List Loc), va_P D vwCl (cW S ad dA ρ0.2) H1 → (∀ q : Nat, q < H.size → ¬ Aw S ad q → H1[q]? = H[q]?) → va_S (fun q => s.heap.size ≤ q) s.heap H1 locs1 → W p l e R s m args below meth c H1 locs1 cl sl Q (F0 m (pc + 3) ls ((ρ0.1.map (cV ad)).toList ++ rest))) : W p l e R s m args below meth c H locs cl sl Q (F0 m pc ls stk) := by
  intro T hT X
  obtain ⟨v, st₀, t, T', L, h0, X', hL, e1, e2, ⟨⟨hv, hp⟩, hz, hk⟩, st⟩ := hr T hT X
  cases hv
  rw [h0] at hz hk
  obtain ⟨t2, a1, b1⟩ := kk T'.heap (locs ++ L) (by rw [e1]; exact hp) (fun q h1 h2 => by rw [e1]; exact hk q h1 h2)
    ⟨Nat.le_trans hS.1 (by rw [e1]; exact hz), fun q h1 h2 => by rw [e1, hk q (Nat.lt_of_lt_of_le h1 hS.1) (fun z => h2 (hA q z))]; exact hS.2.1 q h1 h2, fun q hq => by
      rcases List.mem_append.mp hq with h | h
      · exact hS.2.2 q h
      · exact hA _ (hL q h)⟩ T' rfl X'
  exact ⟨t2, st t2 a1, b1⟩
theorem cW_kept {S : qWo} {D : va_G} {ad : Nat → Nat} {dA : FieldType → ClassId} {σ : qMem} {H H1 : Heap} {A : Nat → Prop} (hP : va_P D vwCl (cW S ad dA σ) H) (hk : ∀ q : Nat, q < H.size → ¬ A q → H1[q]? = H[q]?) (hA : ∀ k, k < S.1.length → ¬ A (ad k)) : va_P D vwCl (cW S ad dA σ) H1 := by
  refine hP.kept (fun k q h => ?_)
  have hlt := (hP k q h).lt
  obtain ⟨x, h1, rfl⟩ := cW_inv h
  exact hk _ hlt (hA k (List.getElem?_eq_some_iff.mp h1).1)
theorem cV_ints (ad ad' : Nat → Nat) (as : List Int32) : (as.map Value.int).map (cV ad) = (as.map Value.int).map (cV ad') := by
  rw [List.map_map, List.map_map]; rfl
theorem l_callC {β : Type} {ρ' : β → Option Value × qMem} (M' : qMt) {idx n : Nat} (as : List Int32) {stk : List Value} {r0 : Option β} {a0 : β} (hd : decode code pc = .ok (.invokevirtual idx, 3)) (hs : sV R_law idx M' n) (hR : M'.2.2.2.2.1 + 1 ≤ 2048 ∧ 8 + (M'.2.2.1 + 11) + M'.2.2.2.2.2 ≤ 84000) (hc : RX11 = M'.1.cls) (hst : stk = (as.map Value.int).reverse ++ .ref 0 :: st) (hn : as.length = n) (hw : (st.map fun v => v.category).sum ≤ 8) (hM : qMc wC M' ρ' (.ref 0 :: as.map Value.int) σC r0) (hr : r0 = some a0) (hv : ∀ ad ad', (ρ' a0).1.map (cV ad) = (ρ' a0).1.map (cV ad')) (kk : qL L xs (pc + 3) Lc ((ρ' a0).1.toList ++ st) (ρ' a0).2 σM) : qL L xs pc Lc stk σC σM := by
  subst hst
  intro p l e s m below meth c b D adC adM dA hF H locs ls hP hQ hS hl
  have hF0 := hF
  obtain ⟨⟨hx, hbb, hret, hml, hown, htt, hX, hbl, hlk, hgv⟩, hK, hIC, hIM, hdis, hC, hMm, hEC, hEM, hts⟩ := hF
  obtain ⟨hm, hp, hin, hse, hlink⟩ := hs
  have hGood := gws_ws hm
  have hA : ∀ q, Aw wC adC q → s.heap.size ≤ q := fun q hq => by obtain ⟨k, h1, rfl⟩ := hq; exact hC k h1
  have hS' : va_S (Aw wC adC) s.heap s.heap [] := va_S.rf
  have hstk : (F0 m pc ls (((as.map Value.int).reverse ++ .ref 0 :: st).map (cV (adL adC adM b)))).stack = ((as.map Value.int).map (cV adC)).reverse ++ .ref (adC 0) :: st.map (cV (adL adC adM b)) := by
    show ((as.map Value.int).reverse ++ .ref 0 :: st).map (cV (adL adC adM b)) = _
    rw [List.map_append, List.map_reverse, cV_ints (adL adC adM b) adC]; rfl
  have hpre : PreV s H M'.1.cls (adC 0) (qPc wC D adC dA (.ref 0 :: as.map Value.int) σC) ((as.map Value.int).map (cV adC)) := ⟨qPc_blind, by rw [← hc]; exact va_recv (q := (RX11, TX11, 14)) hK hP rfl (cW_at zC_0), fun U hU hW => ⟨rfl, by rw [hU]; exact hP, va_K.moved hW.alike hK, hIC, fun w hw => nws_warm hw hW (hEC.1 w hw), fun hb => (hEC.2 hb).go hW (fun q h1 h2 => by rw [hU]; exact hS.2.1 q h1 (Nat.not_le.mpr h1))⟩⟩
  have hroom : 2 * (F0 m pc ls (((as.map Value.int).reverse ++ .ref 0 :: st).map (cV (adL adC adM b)))).monitorRoom + ((st.map (cV (adL adC adM b))).map fun v => v.category).sum ≤ 8 := lv_room (by rw [q_cat]; exact hw)
  have fin : ∀ (H1 : Heap) (locs1 : List Loc), va_P D vwCl (cW wC adC dA (ρ' a0).2) H1 → (∀ q : Nat, q < H.size → ¬ Aw wC adC q → H1[q]? = H[q]?) → va_S (fun q => s.heap.size ≤ q) s.heap H1 locs1 → W p l e room_1 s m #[Value.ref b] below meth c H1 locs1 300 200000 (lw_Z below #[Value.ref b] s) (F0 m (pc + 3) ls (((ρ' a0).1.map (cV adC)).toList ++ st.map (cV (adL adC adM b)))) := by
    intro H1 locs1 hP1 hk1 hS1
    rw [hv adC (adL adC adM b), q_toL]
    exact kk p l e s m below meth c b D adC adM dA hF0 H1 locs1 ls hP1 (cW_kept hQ hk1 (fun k hk hq => by obtain ⟨i, h1, h2⟩ := hq; exact hdis i k h1 hk h2.symm)) hS1 hl
  rcases hlink with hlink | ⟨host, hlink⟩
  · exact l_run (va_runV (C := M'.1.cls) (bytes := M'.2.1) (maxL := M'.2.2.1) (ret := M'.2.2.2.1) (n := n) (As := (as.map Value.int).map (cV adC)) (rest := st.map (cV (adL adC adM b))) (b := adC 0) ⟨hx, hbb, hml, hown, hts⟩ (hM a0 hr l D adC dA) ⟨callB_of n hts hGood rfl rfl rfl (hts _ hm.2.1) (hts _ hlink) ⟨hm.2.2.1.1, hm.2.2.1.2, hp⟩ hR, hts _ hin, hts _ hse⟩ hpre rfl (by rw [List.length_map, List.length_map]; exact hn) hl.1 hstk hroom hd ⟨by decide, by decide⟩) hS hA fin
  · exact l_run (va_runVN (C := M'.1.cls) (bytes := M'.2.1) (maxL := M'.2.2.1) (ret := M'.2.2.2.1) (n := n) (host := host) (As := (as.map Value.int).map (cV adC)) (rest := st.map (cV (adL adC adM b))) (b := adC 0) ⟨hx, hbb, hml, hown, hts⟩ (hM a0 hr l D adC dA) ⟨va_cnB n hts hGood rfl rfl rfl (hEC.1 _ hlink) (hts _ hm.2.1) ⟨hm.2.2.1.1, hm.2.2.1.2, hp⟩ hR, hts _ hin, hts _ hse⟩ hpre rfl (by rw [List.length_map, List.length_map]; exact hn) hl.1 hstk hroom hd ⟨by decide, by decide⟩) hS hA fin
theorem l_callM {β : Type} {ρ' : β → Option Value × qMem} (M' : qMt) {idx n : Nat} (as : List Int32) {stk : List Value} {r0 : Option β} {a0 : β} (hd : decode code pc = .ok (.invokevirtual idx, 3)) (hs : sV R_law idx M' n) (hR : M'.2.2.2.2.1 + 1 ≤ 2048 ∧ 8 + (M'.2.2.1 + 11) + M'.2.2.2.2.2 ≤ 84000) (hc : RX12 = M'.1.cls) (hst : stk = (as.map Value.int).reverse ++ .ref 1 :: st) (hn : as.length = n) (hw : (st.map fun v => v.category).sum ≤ 8) (hM : qMc wM M' ρ' (.ref 0 :: as.map Value.int) σM r0) (hr : r0 = some a0) (hv : ∀ ad ad', (ρ' a0).1.map (cV ad) = (ρ' a0).1.map (cV ad')) (kk : qL L xs (pc + 3) Lc ((ρ' a0).1.toList ++ st) σC (ρ' a0).2) : qL L xs pc Lc stk σC σM := by
  subst hst
  intro p l e s m below meth c b D adC adM dA hF H locs ls hP hQ hS hl
  have hF0 := hF
  obtain ⟨⟨hx, hbb, hret, hml, hown, htt, hX, hbl, hlk, hgv⟩, hK, hIC, hIM, hdis, hC, hMm, hEC, hEM, hts⟩ := hF
  obtain ⟨hm, hp, hin, hse, hlink⟩ := hs
  have hGood := gws_ws hm
  have hA : ∀ q, Aw wM adM q → s.heap.size ≤ q := fun q hq => by obtain ⟨k, h1, rfl⟩ := hq; exact hMm k h1
  have hstk : (F0 m pc ls (((as.map Value.int).reverse ++ .ref 1 :: st).map (cV (adL adC adM b)))).stack = ((as.map Value.int).map (cV adM)).reverse ++ .ref (adM 0) :: st.map (cV (adL adC adM b)) := by
    show ((as.map Value.int).reverse ++ .ref 1 :: st).map (cV (adL adC adM b)) = _
    rw [List.map_append, List.map_reverse, cV_ints (adL adC adM b) adM]; rfl
  have hpre : PreV s H M'.1.cls (adM 0) (qPc wM D adM dA (.ref 0 :: as.map Value.int) σM) ((as.map Value.int).map (cV adM)) := ⟨qPc_blind, by rw [← hc]; exact va_recv (q := (RX12, TX12, 45)) hK hQ rfl (cW_at zM_0), fun U hU hW => ⟨rfl, by rw [hU]; exact hQ, va_K.moved hW.alike hK, hIM, fun w hw => nws_warm hw hW (hEM.1 w hw), fun hb => by cases hb⟩⟩
  have hroom : 2 * (F0 m pc ls (((as.map Value.int).reverse ++ .ref 1 :: st).map (cV (adL adC adM b)))).monitorRoom + ((st.map (cV (adL adC adM b))).map fun v => v.category).sum ≤ 8 := lv_room (by rw [q_cat]; exact hw)
  have fin : ∀ (H1 : Heap) (locs1 : List Loc), va_P D vwCl (cW wM adM dA (ρ' a0).2) H1 → (∀ q : Nat, q < H.size → ¬ Aw wM adM q → H1[q]? = H[q]?) → va_S (fun q => s.heap.size ≤ q) s.heap H1 locs1 → W p l e room_1 s m #[Value.ref b] below meth c H1 locs1 300 200000 (lw_Z below #[Value.ref b] s) (F0 m (pc + 3) ls (((ρ' a0).1.map (cV adM)).toList ++ st.map (cV (adL adC adM b)))) := by
    intro H1 locs1 hP1 hk1 hS1
    rw [hv adM (adL adC adM b), q_toL]
    exact kk p l e s m below meth c b D adC adM dA hF0 H1 locs1 ls (cW_kept hP hk1 (fun k hk hq => by obtain ⟨i, h1, h2⟩ := hq; exact hdis k i hk h1 h2)) hP1 hS1 hl
  rcases hlink with hlink | ⟨host, hlink⟩
  · exact l_run (va_runV (C := M'.1.cls) (bytes := M'.2.1) (maxL := M'.2.2.1) (ret := M'.2.2.2.1) (n := n) (As := (as.map Value.int).map (cV adM)) (rest := st.map (cV (adL adC adM b))) (b := adM 0) ⟨hx, hbb, hml, hown, hts⟩ (hM a0 hr l D adM dA) ⟨callB_of n hts hGood rfl rfl rfl (hts _ hm.2.1) (hts _ hlink) ⟨hm.2.2.1.1, hm.2.2.1.2, hp⟩ hR, hts _ hin, hts _ hse⟩ hpre rfl (by rw [List.length_map, List.length_map]; exact hn) hl.1 hstk hroom hd ⟨by decide, by decide⟩) hS hA fin
  · exact l_run (va_runVN (C := M'.1.cls) (bytes := M'.2.1) (maxL := M'.2.2.1) (ret := M'.2.2.2.1) (n := n) (host := host) (As := (as.map Value.int).map (cV adM)) (rest := st.map (cV (adL adC adM b))) (b := adM 0) ⟨hx, hbb, hml, hown, hts⟩ (hM a0 hr l D adM dA) ⟨va_cnB n hts hGood rfl rfl rfl (hEM.1 _ hlink) (hts _ hm.2.1) ⟨hm.2.2.1.1, hm.2.2.1.2, hp⟩ hR, hts _ hin, hts _ hse⟩ hpre rfl (by rw [List.length_map, List.length_map]; exact hn) hl.1 hstk hroom hd ⟨by decide, by decide⟩) hS hA fin
end QL

