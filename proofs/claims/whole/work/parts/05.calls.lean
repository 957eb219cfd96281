/-! calls -/
def pN (M : qMt) (n : Nat) : Prop := (parseMethodDescriptor M.1.desc).map (fun d => d.parameters.length) = some n
def sV (own : String) (idx : Nat) (M : qMt) (n : Nat) : Prop := mOK M ∧ pN M n ∧ Cond.instanceMethod M.1 ∈ gws ∧ Cond.selects M.1.cls M.1 M.1 ∈ gws ∧ (Cond.methodLink own idx M.1 ∈ gws ∨ ∃ host, Cond.methodLinkNest own idx M.1 host ∈ nws)
def sS (own : String) (idx : Nat) (M : qMt) (n : Nat) : Prop := mOK M ∧ pN M n ∧ Cond.static M.1 ∈ gws ∧ (Cond.methodLink own idx M.1 ∈ gws ∨ ∃ host, Cond.methodLinkNest own idx M.1 host ∈ nws)
def rR (M' M : qMt) : Prop := M'.2.2.2.2.1 + 1 ≤ M.2.2.2.2.1 ∧ 8 + (M'.2.2.1 + 11) + M'.2.2.2.2.2 ≤ M.2.2.2.2.2
theorem gws_ws {M : qMt} (h : mOK M) : GoodIn gws (wsM M) := fun w hw => by
  rcases List.mem_cons.mp hw with rfl | hw
  · exact ⟨h.1, gws_good h.1⟩
  · exact ⟨hw, gws_good hw⟩
theorem nws_tab {w : Cond} (h : w ∈ nws) : w.onTables = true := by
  have h2 := (List.mem_filter.mp h).2
  cases w <;> first | rfl | (exact absurd h2 (by simp [isNw]))
theorem Xc.blind {ad : Nat → Nat} {A : Nat → Prop} {U : State} (g : JFrame) (mk : MethodId) (a : Array Value) (h : Xc ad A U) : Xc ad A (U.calling g mk a) := by
  obtain ⟨⟨z1, t1⟩, ⟨z2, t2⟩, ⟨z3, t3⟩, ⟨z4, z5⟩, k, r⟩ := h
  have hv : U.vm.Alike (U.calling g mk a).vm := Vm.Alike.refl U.vm
  exact ⟨⟨z1.moved hv, t1.moved hv⟩, ⟨z2.moved hv, t2.moved hv⟩, ⟨z3.moved hv, t3.moved hv⟩, ⟨z4.moved hv, z5.imp (fun z => z.moved hv) (fun z => z.moved hv)⟩, k.moved hv, fun i q hi => (r i q hi).same rfl⟩
theorem qPc_blind {S : qWo} {D : va_G} {ad : Nat → Nat} {dA : FieldType → ClassId} {av : List Value} {σ : qMem} : FrameBlind (qPc S D ad dA av σ) := by
  intro a U g mk q
  obtain ⟨q0, qP, qK, qI, qE⟩ := q
  exact ⟨q0, qP, va_K.moved (u := U) (U := U.calling g mk a) (Vm.Alike.refl U.vm) qK, qI, fun w hw => va_Nw.same (u := U) (U := U.calling g mk a) (nws_tab hw) rfl (qE.1 w hw), fun h => (qE.2 h).blind g mk a⟩
theorem qEx.go {S : qWo} {ad : Nat → Nat} {s U : State} {locs : List Loc} (h : qEx S ad s) (hW : s.WarmedH U.vm) (hS : va_S (Aw S ad) s.heap U.heap locs) : qEx S ad U := ⟨fun w hw => nws_warm hw hW (h.1 w hw), fun hb => (h.2 hb).go hW (fun q h1 h2 => hS.2.1 q h1 h2)⟩
section QC
variable {α : Type} {S : qWo} {M : qMt} {ρ : α → Option Value × qMem} {pc : Nat} {L : List (Nat × Value)} {st : List Value} {σ : qMem} {r : Option α}
theorem q_run {p : Program} {l : Launch} {e : Env} {R : Room} {s : State} {m : MethodId} {args : Array Value} {below : List Frame} {meth : Method} {c : Code} {H : Heap} {locs : List Loc} {Q : State → Prop} {ls : Array Slot} {stk rest : List Value} {D : va_G} {ad : Nat → Nat} {dA : FieldType → ClassId} {ρ0 : Option Value × qMem} {a0 : Array Value}
    (hr : va_Run p l e R s m args below meth c H locs 0 0 0 0 (F0 m pc ls stk) rest (qQc S D ad dA ρ0 a0) (Aw S ad)) (hS : va_S (Aw S ad) s.heap H locs)
    (kk : ∀ (H1 : Heap) (locs1 : List Loc), va_P D vwCl (cW S ad dA ρ0.2) H1 → va_S (Aw S ad) s.heap H1 locs1 → W p l e R s m args below meth c H1 locs1 0 0 Q (F0 m (pc + 3) ls ((ρ0.1.map (cV ad)).toList ++ rest))) : W p l e R s m args below meth c H locs 0 0 Q (F0 m pc ls stk) := by
  intro T hT X
  obtain ⟨v, st₀, t, T', L, h0, X', hL, e1, e2, ⟨⟨hv, hp⟩, hz, hk⟩, st⟩ := hr T hT X
  cases hv
  rw [h0] at hz hk
  obtain ⟨t2, a1, b1⟩ := kk T'.heap (locs ++ L) (by rw [e1]; exact hp)
    ⟨Nat.le_trans hS.1 (by rw [e1]; exact hz), fun q h1 h2 => by rw [e1, hk q (Nat.lt_of_lt_of_le h1 hS.1) h2]; exact hS.2.1 q h1 h2, fun q hq => by
      rcases List.mem_append.mp hq with h | h
      · exact hS.2.2 q h
      · exact hL q h⟩ T' rfl X'
  exact ⟨t2, st t2 a1, b1⟩
theorem q_cat (ad : Nat → Nat) (st : List Value) : ((st.map (cV ad)).map fun v => v.category).sum = (st.map fun v => v.category).sum := by
  rw [List.map_map]
  congr 1
  exact List.map_congr_left (fun v _ => cV_cat ad v)
theorem q_toL (ad : Nat → Nat) (v : Option Value) (st : List Value) : (v.map (cV ad)).toList ++ st.map (cV ad) = (v.toList ++ st).map (cV ad) := by cases v <;> simp
theorem q_cV {β : Type} {ρ' : β → Option Value × qMem} (M' : qMt) {k ci idx n : Nat} {ks : List (Nat ⊕ Nat)} (as : List Value) {stk : List Value} {r0 : Option β} {K : β → Option α} (hd : decode M.2.1 pc = .ok (.invokevirtual idx, 3)) (hs : sV M.1.cls idx M' n) (hR : rR M' M) (hk : S.1[k]? = some (.inr (ci, ks))) (hc : (vwCl[ci]?).map (fun q => q.1) = some M'.1.cls)
    (hst : stk = as.reverse ++ .ref k :: st) (hn : as.length = n) (hw : (st.map fun v => v.category).sum ≤ 8) (hM : qMc S M' ρ' (.ref k :: as) σ r0) (kk : ∀ b, qAt S M ρ (pc + 3) L ((ρ' b).1.toList ++ st) (ρ' b).2 (K b)) : qAt S M ρ pc L stk σ (r0.bind K) := by
  subst hst
  intro a ha p l e s m args below meth c D ad dA hF H locs ls hP hS hl
  cases hr : r0 with
  | none => rw [hr] at ha; cases ha
  | some b =>
    rw [hr] at ha
    obtain ⟨hx, hb, hml, hown, hts, hret, hlk, hK, hI, hE⟩ := hF
    obtain ⟨q, hq, hqc⟩ := Option.map_eq_some_iff.mp hc
    obtain ⟨hm, hp, hin, hse, hlink⟩ := hs
    have hGood := gws_ws hm
    have hstk : (F0 m pc ls ((as.reverse ++ .ref k :: st).map (cV ad))).stack = (as.map (cV ad)).reverse ++ .ref (ad k) :: st.map (cV ad) := by
      show (as.reverse ++ .ref k :: st).map (cV ad) = _
      rw [List.map_append, List.map_reverse]; rfl
    have hpre : PreV s H M'.1.cls (ad k) (qPc S D ad dA (.ref k :: as) σ) (as.map (cV ad)) := ⟨qPc_blind, by rw [← hqc]; exact va_recv hK hP hq (cW_at hk), fun U hU hW => ⟨rfl, by rw [hU]; exact hP, va_K.moved hW.alike hK, hI, hE.go hW (by rw [hU]; exact hS)⟩⟩
    have hroom : 2 * (F0 m pc ls ((as.reverse ++ .ref k :: st).map (cV ad))).monitorRoom + ((st.map (cV ad)).map fun v => v.category).sum ≤ 8 := lv_room (by rw [q_cat]; exact hw)
    have fin := fun H1 locs1 hP1 hS1 => kk b a ha p l e s m args below meth c D ad dA ⟨hx, hb, hml, hown, hts, hret, hlk, hK, hI, hE⟩ H1 locs1 ls hP1 hS1 hl
    rcases hlink with hlink | ⟨host, hlink⟩
    · refine q_run (va_runV (C := M'.1.cls) (bytes := M'.2.1) (maxL := M'.2.2.1) (ret := M'.2.2.2.1) (n := n) (As := as.map (cV ad)) (rest := st.map (cV ad)) (b := ad k) ⟨hx, hb, hml, hown, hts⟩ (hM b hr l D ad dA) ⟨callB_of n hts hGood rfl rfl rfl (hts _ hm.2.1) (hts _ hlink) ⟨hm.2.2.1.1, hm.2.2.1.2, hp⟩ hR, hts _ hin, hts _ hse⟩ hpre rfl (by rw [List.length_map]; exact hn) hl.1 hstk hroom hd ⟨Nat.zero_le _, Nat.zero_le _⟩) hS (fun H1 locs1 hP1 hS1 => ?_)
      rw [q_toL]
      exact fin H1 locs1 hP1 hS1
    · refine q_run (va_runVN (C := M'.1.cls) (bytes := M'.2.1) (maxL := M'.2.2.1) (ret := M'.2.2.2.1) (n := n) (host := host) (As := as.map (cV ad)) (rest := st.map (cV ad)) (b := ad k) ⟨hx, hb, hml, hown, hts⟩ (hM b hr l D ad dA) ⟨va_cnB n hts hGood rfl rfl rfl (hE.1 _ hlink) (hts _ hm.2.1) ⟨hm.2.2.1.1, hm.2.2.1.2, hp⟩ hR, hts _ hin, hts _ hse⟩ hpre rfl (by rw [List.length_map]; exact hn) hl.1 hstk hroom hd ⟨Nat.zero_le _, Nat.zero_le _⟩) hS (fun H1 locs1 hP1 hS1 => ?_)
      rw [q_toL]
      exact fin H1 locs1 hP1 hS1
theorem q_cS {β : Type} {ρ' : β → Option Value × qMem} (M' : qMt) {idx n : Nat} (as : List Value) {stk : List Value} {r0 : Option β} {K : β → Option α} (hd : decode M.2.1 pc = .ok (.invokestatic idx, 3)) (hs : sS M.1.cls idx M' n) (hR : rR M' M)
    (hst : stk = as.reverse ++ st) (hn : as.length = n) (hw : (st.map fun v => v.category).sum ≤ 8) (hM : qMc S M' ρ' as σ r0) (kk : ∀ b, qAt S M ρ (pc + 3) L ((ρ' b).1.toList ++ st) (ρ' b).2 (K b)) : qAt S M ρ pc L stk σ (r0.bind K) := by
  subst hst
  intro a ha p l e s m args below meth c D ad dA hF H locs ls hP hS hl
  cases hr : r0 with
  | none => rw [hr] at ha; cases ha
  | some b =>
    rw [hr] at ha
    obtain ⟨hx, hb, hml, hown, hts, hret, hlk, hK, hI, hE⟩ := hF
    obtain ⟨hm, hp, hsta, hlink⟩ := hs
    have hGood := gws_ws hm
    have hstk : (F0 m pc ls ((as.reverse ++ st).map (cV ad))).stack = (as.map (cV ad)).reverse ++ st.map (cV ad) := by
      show (as.reverse ++ st).map (cV ad) = _
      rw [List.map_append, List.map_reverse]
    have hpre : PreS s H (qPc S D ad dA as σ) (as.map (cV ad)) := ⟨qPc_blind, fun U hU hW => ⟨rfl, by rw [hU]; exact hP, va_K.moved hW.alike hK, hI, hE.go hW (by rw [hU]; exact hS)⟩⟩
    have hroom : 2 * (F0 m pc ls ((as.reverse ++ st).map (cV ad))).monitorRoom + ((st.map (cV ad)).map fun v => v.category).sum ≤ 8 := lv_room (by rw [q_cat]; exact hw)
    have fin := fun H1 locs1 hP1 hS1 => kk b a ha p l e s m args below meth c D ad dA ⟨hx, hb, hml, hown, hts, hret, hlk, hK, hI, hE⟩ H1 locs1 ls hP1 hS1 hl
    rcases hlink with hlink | ⟨host, hlink⟩
    · refine q_run (va_runS (bytes := M'.2.1) (maxL := M'.2.2.1) (ret := M'.2.2.2.1) (n := n) (As := as.map (cV ad)) (rest := st.map (cV ad)) ⟨hx, hb, hml, hown, hts⟩ (hM b hr l D ad dA) ⟨callB_of n hts hGood rfl rfl rfl (hts _ hm.2.1) (hts _ hlink) ⟨hm.2.2.1.1, hm.2.2.1.2, hp⟩ hR, hts _ hsta⟩ hpre rfl (by rw [List.length_map]; exact hn) hl.1 hstk hroom hd ⟨Nat.zero_le _, Nat.zero_le _⟩) hS (fun H1 locs1 hP1 hS1 => ?_)
      rw [q_toL]
      exact fin H1 locs1 hP1 hS1
    · refine q_run (va_runSN (bytes := M'.2.1) (maxL := M'.2.2.1) (ret := M'.2.2.2.1) (n := n) (host := host) (As := as.map (cV ad)) (rest := st.map (cV ad)) ⟨hx, hb, hml, hown, hts⟩ (hM b hr l D ad dA) ⟨va_cnB n hts hGood rfl rfl rfl (hE.1 _ hlink) (hts _ hm.2.1) ⟨hm.2.2.1.1, hm.2.2.1.2, hp⟩ hR, hts _ hsta, trivial⟩ hpre rfl (by rw [List.length_map]; exact hn) hl.1 hstk hroom hd ⟨Nat.zero_le _, Nat.zero_le _⟩) hS (fun H1 locs1 hP1 hS1 => ?_)
      rw [q_toL]
      exact fin H1 locs1 hP1 hS1
/-- System.arraycopy of ints -/
def cpOK (s0 d0 n : Int32) (ns nd : Nat) : Bool := decide (¬ s0 < 0 ∧ ¬ d0 < 0 ∧ ¬ n < 0 ∧ s0.toNatClampNeg + n.toNatClampNeg ≤ ns ∧ d0.toNatClampNeg + n.toNatClampNeg ≤ nd)
def cp (σ : qMem) (ks kd : Nat) (s0 d0 n : Int32) : qMem := sr σ kd (va_cpy (σ.1 ks) (σ.1 kd) s0.toNatClampNeg d0.toNatClampNeg n.toNatClampNeg)
theorem q_copy {ks kd ns nd idx : Nat} {s0 d0 n : Int32} (hd : decode M.2.1 pc = .ok (.invokestatic idx, 3)) (hlink : Cond.methodLink M.1.cls idx arraycopyName ∈ gws) (hnat : Cond.native arraycopyName ∈ gws) (hstat : Cond.static arraycopyName ∈ gws) (hini : Cond.initialized "java/lang/System" ∈ gws) (h1 : S.1[ks]? = some (.inl (.int, ns, []))) (h2 : S.1[kd]? = some (.inl (.int, nd, []))) (hR : 1 ≤ M.2.2.2.2.1 ∧ (st.map fun v => v.category).sum + (nativeFrameWords "java/lang/System" "arraycopy" 5 + 11) ≤ M.2.2.2.2.2) (kk : qAt S M ρ (pc + 3) L st (cp σ ks kd s0 d0 n) r) : qAt S M ρ pc L (.int n :: .int d0 :: .ref kd :: .int s0 :: .ref ks :: st) σ (if cpOK s0 d0 n ns nd = true then r else none) := by
  refine q_ck (fun h => ?_)
  obtain ⟨g1, g2, g3, g4, g5⟩ := of_decide_eq_true h
  intro a ha p l e s m args below meth c D ad dA hF H locs ls hP hS hl
  refine va_copyi hF.1 hF.2.1 (hF.2.2.1.trans hl.1.symm) hF.2.2.2.1 (hF.2.2.2.2.1 _ hlink) (hF.2.2.2.2.1 _ hnat) (hF.2.2.2.2.1 _ hstat) (hF.2.2.2.2.1 _ hini) hF.2.2.2.2.2.2.2.1 hP (cW_D hF.2.2.2.2.2.2.2.2.1) hS ks kd 0 0 (cW_at h1) (cW_at h2) rfl rfl rfl g1 g2 g3 g4 g5 (fun _ _ => rfl) hR.1 (by rw [q_cat]; exact hR.2) hd (fun H1 locs1 hP1 _ hS1 => ?_)
  refine kk a ha p l e s m args below meth c D ad dA hF H1 locs1 ls ?_ hS1 hl
  rw [show cW S ad dA (cp σ ks kd s0 d0 n) = _ from cW_set h2 sr_ne1 sr_ne2]
  unfold cp
  rw [cE_sr (fun _ => rfl)]
  exact hP1
end QC
