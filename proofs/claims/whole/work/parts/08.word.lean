/-! constant strings: what length and charAt answer; LawReader.isWord -/
section QS
variable {α : Type} {S : qWo} {M : qMt} {ρ : α → Option Value × qMem} {pc : Nat} {L : List (Nat × Value)} {st : List Value} {σ : qMem} {r : Option α}
theorem q_gsV {w : Nat} (hw : w < 12) (hS2 : S.2 = true) {idx : Nat} (hd : decode M.2.1 pc = .ok (.getfield idx, 3)) (hl : Cond.fieldLink M.1.cls idx "java/lang/String" "value" "[B" ∈ gws) (kk : qAt S M ρ (pc + 3) L (.ref (1030 + w) :: st) σ r) : qAt S M ρ pc L (.ref (1010 + w) :: st) σ r := by
  intro a ha p l e s m args below meth c D ad dA hF H locs ls hP hS h
  exact vk_getf hF.1 hF.2.1 (((hF.2.2.2.2.2.2.2.2.2.2 hS2).2.2.2.2.1.1 w hw).2.2.1) hS hF.2.2.2.1 (hF.2.2.2.2.1 _ hl) (fun _ h9 => h9) hd (kk a ha p l e s m args below meth c D ad dA hF H locs ls hP hS h)
theorem q_gsC {w : Nat} (hw : w < 12) (hS2 : S.2 = true) {idx : Nat} (hd : decode M.2.1 pc = .ok (.getfield idx, 3)) (hl : Cond.fieldLink M.1.cls idx "java/lang/String" "coder" "B" ∈ gws) (kk : qAt S M ρ (pc + 3) L (.int 0 :: st) σ r) : qAt S M ρ pc L (.ref (1010 + w) :: st) σ r := by
  intro a ha p l e s m args below meth c D ad dA hF H locs ls hP hS h
  exact vk_getf hF.1 hF.2.1 (((hF.2.2.2.2.2.2.2.2.2.2 hS2).2.2.2.2.1.1 w hw).2.1) hS hF.2.2.2.1 (hF.2.2.2.2.1 _ hl) (fun _ h9 => h9) hd (kk a ha p l e s m args below meth c D ad dA hF H locs ls hP hS h)
theorem q_vlen {w : Nat} (hw : w < 12) (hS2 : S.2 = true) (hd : decode M.2.1 pc = .ok (.arraylength, 1)) (kk : qAt S M ρ (pc + 1) L (.int (nI ((strB.map List.length).getD w 0)) :: st) σ r) : qAt S M ρ pc L (.ref (1030 + w) :: st) σ r := by
  intro a ha p l e s m args below meth c D ad dA hF H locs ls hP hS h
  exact va_tlen hF.1 hF.2.1 (((hF.2.2.2.2.2.2.2.2.2.2 hS2).2.2.2.2.1.1 w hw).2.2.2) hS (v := nI ((strB.map List.length).getD w 0)) rfl hd (kk a ha p l e s m args below meth c D ad dA hF H locs ls hP hS h)
theorem q_vald {w : Nat} (hw : w < 12) (hS2 : S.2 = true) {i : Int32} (hi : ck i ((strB.map List.length).getD w 0) = true) (hd : decode M.2.1 pc = .ok (.baload, 1)) (kk : qAt S M ρ (pc + 1) L (.int ((strB.getD w []).getD i.toNatClampNeg 0) :: st) σ r) : qAt S M ρ pc L (.int i :: .ref (1030 + w) :: st) σ r := by
  intro a ha p l e s m args below meth c D ad dA hF H locs ls hP hS h
  exact va_tb hF.1 hF.2.1 (((hF.2.2.2.2.2.2.2.2.2.2 hS2).2.2.2.2.1.1 w hw).2.2.2) hS (ck_in hi) rfl hd (kk a ha p l e s m args below meth c D ad dA hF H locs ls hP hS h)
theorem q_gsS (hS2 : S.2 = true) {idx : Nat} (hd : decode M.2.1 pc = .ok (.getstatic idx, 3)) (hl : Cond.fieldLink M.1.cls idx "java/lang/String" "COMPACT_STRINGS" "Z" ∈ gws) (kk : qAt S M ρ (pc + 3) L (.int 1 :: st) σ r) : qAt S M ρ pc L st σ r := by
  intro a ha p l e s m args below meth c D ad dA hF H locs ls hP hS h
  exact va_gets hF.1 hF.2.1 ((hF.2.2.2.2.2.2.2.2.2.2 hS2).2.2.2.1.1) hS hF.2.2.2.1 (hF.2.2.2.2.1 _ hl) (fun _ h9 => h9) hd (kk a ha p l e s m args below meth c D ad dA hF H locs ls hP hS h)
theorem q_gsQ (hS2 : S.2 = true) {idx : Nat} (hd : decode M.2.1 pc = .ok (.getstatic idx, 3)) (hl : Cond.fieldLink M.1.cls idx "jdk/internal/util/Preconditions" "SIOOBE_FORMATTER" "Ljava/util/function/BiFunction;" ∈ gws) (kk : ∀ v : Value, v = .null ∨ v = .ref 1050 → qAt S M ρ (pc + 3) L (v :: st) σ r) : qAt S M ρ pc L st σ r := by
  intro a ha p l e s m args below meth c D ad dA hF H locs ls hP hS h
  rcases (hF.2.2.2.2.2.2.2.2.2.2 hS2).2.2.2.1.2 with z | z
  · exact va_gets hF.1 hF.2.1 z hS hF.2.2.2.1 (hF.2.2.2.2.1 _ hl) (fun _ h9 => h9) hd (kk .null (Or.inl rfl) a ha p l e s m args below meth c D ad dA hF H locs ls hP hS h)
  · exact va_gets hF.1 hF.2.1 z hS hF.2.2.2.1 (hF.2.2.2.2.1 _ hl) (fun _ h9 => h9) hd (kk (.ref 1050) (Or.inr rfl) a ha p l e s m args below meth c D ad dA hF H locs ls hP hS h)
theorem q_cVs {β : Type} {ρ' : β → Option Value × qMem} (M' : qMt) {w idx n : Nat} (as : List Value) {stk : List Value} {r0 : Option β} {K : β → Option α} (hw12 : w < 12) (hS2 : S.2 = true) (hd : decode M.2.1 pc = .ok (.invokevirtual idx, 3)) (hs : sV M.1.cls idx M' n) (hR : rR M' M) (hc : M'.1.cls = "java/lang/String")
    (hst : stk = as.reverse ++ .ref (1010 + w) :: st) (hn : as.length = n) (hw : (st.map fun v => v.category).sum ≤ 8) (hM : qMc S M' ρ' (.ref (1010 + w) :: as) σ r0) (kk : ∀ b, qAt S M ρ (pc + 3) L ((ρ' b).1.toList ++ st) (ρ' b).2 (K b)) : qAt S M ρ pc L stk σ (r0.bind K) := by
  subst hst
  intro a ha p l e s m args below meth c D ad dA hF H locs ls hP hS hl
  cases hr : r0 with
  | none => rw [hr] at ha; cases ha
  | some b =>
    rw [hr] at ha
    obtain ⟨hx, hb, hml, hown, hts, hret, hlk, hK, hI, hE⟩ := hF
    obtain ⟨hm, hp, hin, hse, hlink⟩ := hs
    have hGood := gws_ws hm
    have hstk : (F0 m pc ls ((as.reverse ++ .ref (1010 + w) :: st).map (cV ad))).stack = (as.map (cV ad)).reverse ++ .ref (ad (1010 + w)) :: st.map (cV ad) := by
      show (as.reverse ++ .ref (1010 + w) :: st).map (cV ad) = _
      rw [List.map_append, List.map_reverse]; rfl
    have hpre : PreV s H M'.1.cls (ad (1010 + w)) (qPc S D ad dA (.ref (1010 + w) :: as) σ) (as.map (cV ad)) := ⟨qPc_blind, by rw [hc]; exact vk_recv (i := w) (hE.2 hS2).2.2.2.2.1 hw12 hS, fun U hU hW => ⟨rfl, by rw [hU]; exact hP, va_K.moved hW.alike hK, hI, hE.go hW (by rw [hU]; exact hS)⟩⟩
    have hroom : 2 * (F0 m pc ls ((as.reverse ++ .ref (1010 + w) :: st).map (cV ad))).monitorRoom + ((st.map (cV ad)).map fun v => v.category).sum ≤ 8 := lv_room (by rw [q_cat]; exact hw)
    have fin := fun H1 locs1 hP1 hS1 => kk b a ha p l e s m args below meth c D ad dA ⟨hx, hb, hml, hown, hts, hret, hlk, hK, hI, hE⟩ H1 locs1 ls hP1 hS1 hl
    rcases hlink with hlink | ⟨host, hlink⟩
    · refine q_run (va_runV (C := M'.1.cls) (bytes := M'.2.1) (maxL := M'.2.2.1) (ret := M'.2.2.2.1) (n := n) (As := as.map (cV ad)) (rest := st.map (cV ad)) (b := ad (1010 + w)) ⟨hx, hb, hml, hown, hts⟩ (hM b hr l D ad dA) ⟨callB_of n hts hGood rfl rfl rfl (hts _ hm.2.1) (hts _ hlink) ⟨hm.2.2.1.1, hm.2.2.1.2, hp⟩ hR, hts _ hin, hts _ hse⟩ hpre rfl (by rw [List.length_map]; exact hn) hl.1 hstk hroom hd ⟨Nat.zero_le _, Nat.zero_le _⟩) hS (fun H1 locs1 hP1 hS1 => ?_)
      rw [q_toL]
      exact fin H1 locs1 hP1 hS1
    · refine q_run (va_runVN (C := M'.1.cls) (bytes := M'.2.1) (maxL := M'.2.2.1) (ret := M'.2.2.2.1) (n := n) (host := host) (As := as.map (cV ad)) (rest := st.map (cV ad)) (b := ad (1010 + w)) ⟨hx, hb, hml, hown, hts⟩ (hM b hr l D ad dA) ⟨va_cnB n hts hGood rfl rfl rfl (hE.1 _ hlink) (hts _ hm.2.1) ⟨hm.2.2.1.1, hm.2.2.1.2, hp⟩ hR, hts _ hin, hts _ hse⟩ hpre rfl (by rw [List.length_map]; exact hn) hl.1 hstk hroom hd ⟨Nat.zero_le _, Nat.zero_le _⟩) hS (fun H1 locs1 hP1 hS1 => ?_)
      rw [q_toL]
      exact fin H1 locs1 hP1 hS1
end QS
def mJ3_checkIndex : qMt := (yJ3_checkIndex_8e157, cJ3_checkIndex_8e157, 3, (some .int), 0, 0)
theorem moJ3_checkIndex : mOK mJ3_checkIndex := ⟨show Cond.code yJ3_checkIndex_8e157 cJ3_checkIndex_8e157 3 (some .int) ∈ gws from g_4 45 rfl rfl, show Cond.initialized RJ3 ∈ gws from g_1 20 (by decide +kernel) rfl, show RJ3 ≠ _ ∧ RJ3 ≠ _ by decide +kernel, show plainFor yJ3_checkIndex_8e157 = true by decide +kernel⟩
theorem dJ3_checkIndex_0 : decode cJ3_checkIndex_8e157 0 = .ok (.iload_n 0, 1) := by decide +kernel
theorem dJ3_checkIndex_1 : decode cJ3_checkIndex_8e157 1 = .ok (.ifCond .lt 8, 3) := by decide +kernel
theorem dJ3_checkIndex_4 : decode cJ3_checkIndex_8e157 4 = .ok (.iload_n 0, 1) := by decide +kernel
theorem dJ3_checkIndex_5 : decode cJ3_checkIndex_8e157 5 = .ok (.iload_n 1, 1) := by decide +kernel
theorem dJ3_checkIndex_6 : decode cJ3_checkIndex_8e157 6 = .ok (.if_icmp .lt 10, 3) := by decide +kernel
theorem dJ3_checkIndex_9 : decode cJ3_checkIndex_8e157 9 = .ok (.aload_n 2, 1) := by decide +kernel
theorem dJ3_checkIndex_10 : decode cJ3_checkIndex_8e157 10 = .ok (.iload_n 0, 1) := by decide +kernel
theorem dJ3_checkIndex_11 : decode cJ3_checkIndex_8e157 11 = .ok (.iload_n 1, 1) := by decide +kernel
theorem dJ3_checkIndex_12 : decode cJ3_checkIndex_8e157 12 = .ok (.invokestatic 95, 3) := by decide +kernel
theorem dJ3_checkIndex_15 : decode cJ3_checkIndex_8e157 15 = .ok (.athrow, 1) := by decide +kernel
theorem dJ3_checkIndex_16 : decode cJ3_checkIndex_8e157 16 = .ok (.iload_n 0, 1) := by decide +kernel
theorem dJ3_checkIndex_17 : decode cJ3_checkIndex_8e157 17 = .ok (.ireturn, 1) := by decide +kernel
def mJ0_checkIndex : qMt := (yJ0_checkIndex_df160, cJ0_checkIndex_df160, 2, none, 1, 30)
theorem moJ0_checkIndex : mOK mJ0_checkIndex := ⟨show Cond.code yJ0_checkIndex_df160 cJ0_checkIndex_df160 2 none ∈ gws from g_4 40 rfl rfl, show Cond.initialized RJ0 ∈ gws from g_1 18 (by decide +kernel) rfl, show RJ0 ≠ _ ∧ RJ0 ≠ _ by decide +kernel, show plainFor yJ0_checkIndex_df160 = true by decide +kernel⟩
theorem dJ0_checkIndex_0 : decode cJ0_checkIndex_df160 0 = .ok (.iload_n 0, 1) := by decide +kernel
theorem dJ0_checkIndex_1 : decode cJ0_checkIndex_df160 1 = .ok (.iload_n 1, 1) := by decide +kernel
theorem dJ0_checkIndex_2 : decode cJ0_checkIndex_df160 2 = .ok (.getstatic 1053, 3) := by decide +kernel
theorem dJ0_checkIndex_5 : decode cJ0_checkIndex_df160 5 = .ok (.invokestatic 1059, 3) := by decide +kernel
theorem dJ0_checkIndex_8 : decode cJ0_checkIndex_df160 8 = .ok (.pop, 1) := by decide +kernel
theorem dJ0_checkIndex_9 : decode cJ0_checkIndex_df160 9 = .ok (.return_, 1) := by decide +kernel
def mJ1_charAt : qMt := (yJ1_charAt_3b067, cJ1_charAt_3b067, 2, (some .char), 2, 60)
theorem moJ1_charAt : mOK mJ1_charAt := ⟨show Cond.code yJ1_charAt_3b067 cJ1_charAt_3b067 2 (some .char) ∈ gws from g_4 37 rfl rfl, show Cond.initialized RJ1 ∈ gws from g_1 19 (by decide +kernel) rfl, show RJ1 ≠ _ ∧ RJ1 ≠ _ by decide +kernel, show plainFor yJ1_charAt_3b067 = true by decide +kernel⟩
theorem dJ1_charAt_0 : decode cJ1_charAt_3b067 0 = .ok (.iload_n 1, 1) := by decide +kernel
theorem dJ1_charAt_1 : decode cJ1_charAt_3b067 1 = .ok (.aload_n 0, 1) := by decide +kernel
theorem dJ1_charAt_2 : decode cJ1_charAt_3b067 2 = .ok (.arraylength, 1) := by decide +kernel
theorem dJ1_charAt_3 : decode cJ1_charAt_3b067 3 = .ok (.invokestatic 9, 3) := by decide +kernel
theorem dJ1_charAt_6 : decode cJ1_charAt_3b067 6 = .ok (.aload_n 0, 1) := by decide +kernel
theorem dJ1_charAt_7 : decode cJ1_charAt_3b067 7 = .ok (.iload_n 1, 1) := by decide +kernel
theorem dJ1_charAt_8 : decode cJ1_charAt_3b067 8 = .ok (.baload, 1) := by decide +kernel
theorem dJ1_charAt_9 : decode cJ1_charAt_3b067 9 = .ok (.sipush 255, 3) := by decide +kernel
theorem dJ1_charAt_12 : decode cJ1_charAt_3b067 12 = .ok (.iand, 1) := by decide +kernel
theorem dJ1_charAt_13 : decode cJ1_charAt_3b067 13 = .ok (.i2c, 1) := by decide +kernel
theorem dJ1_charAt_14 : decode cJ1_charAt_3b067 14 = .ok (.ireturn, 1) := by decide +kernel
def mJ0_charAt : qMt := (yJ0_charAt_5068e, cJ0_charAt_5068e, 2, (some .char), 3, 90)
theorem moJ0_charAt : mOK mJ0_charAt := ⟨show Cond.code yJ0_charAt_5068e cJ0_charAt_5068e 2 (some .char) ∈ gws from g_4 30 rfl rfl, show Cond.initialized RJ0 ∈ gws from g_1 18 (by decide +kernel) rfl, show RJ0 ≠ _ ∧ RJ0 ≠ _ by decide +kernel, show plainFor yJ0_charAt_5068e = true by decide +kernel⟩
theorem dJ0_charAt_0 : decode cJ0_charAt_5068e 0 = .ok (.aload_n 0, 1) := by decide +kernel
theorem dJ0_charAt_1 : decode cJ0_charAt_5068e 1 = .ok (.invokevirtual 492, 3) := by decide +kernel
theorem dJ0_charAt_4 : decode cJ0_charAt_5068e 4 = .ok (.ifCond .eq 12, 3) := by decide +kernel
theorem dJ0_charAt_7 : decode cJ0_charAt_5068e 7 = .ok (.aload_n 0, 1) := by decide +kernel
theorem dJ0_charAt_8 : decode cJ0_charAt_5068e 8 = .ok (.getfield 9, 3) := by decide +kernel
theorem dJ0_charAt_11 : decode cJ0_charAt_5068e 11 = .ok (.iload_n 1, 1) := by decide +kernel
theorem dJ0_charAt_12 : decode cJ0_charAt_5068e 12 = .ok (.invokestatic 495, 3) := by decide +kernel
theorem dJ0_charAt_15 : decode cJ0_charAt_5068e 15 = .ok (.ireturn, 1) := by decide +kernel
theorem dJ0_charAt_16 : decode cJ0_charAt_5068e 16 = .ok (.aload_n 0, 1) := by decide +kernel
theorem dJ0_charAt_17 : decode cJ0_charAt_5068e 17 = .ok (.getfield 9, 3) := by decide +kernel
theorem dJ0_charAt_20 : decode cJ0_charAt_5068e 20 = .ok (.iload_n 1, 1) := by decide +kernel
theorem dJ0_charAt_21 : decode cJ0_charAt_5068e 21 = .ok (.invokestatic 498, 3) := by decide +kernel
theorem dJ0_charAt_24 : decode cJ0_charAt_5068e 24 = .ok (.ireturn, 1) := by decide +kernel
def mJ0_coder : qMt := (yJ0_coder_7d493, cJ0_coder_7d493, 1, (some .byte), 0, 0)
theorem moJ0_coder : mOK mJ0_coder := ⟨show Cond.code yJ0_coder_7d493 cJ0_coder_7d493 1 (some .byte) ∈ gws from g_4 24 rfl rfl, show Cond.initialized RJ0 ∈ gws from g_1 18 (by decide +kernel) rfl, show RJ0 ≠ _ ∧ RJ0 ≠ _ by decide +kernel, show plainFor yJ0_coder_7d493 = true by decide +kernel⟩
theorem dJ0_coder_0 : decode cJ0_coder_7d493 0 = .ok (.getstatic 38, 3) := by decide +kernel
theorem dJ0_coder_3 : decode cJ0_coder_7d493 3 = .ok (.ifCond .eq 10, 3) := by decide +kernel
theorem dJ0_coder_6 : decode cJ0_coder_7d493 6 = .ok (.aload_n 0, 1) := by decide +kernel
theorem dJ0_coder_7 : decode cJ0_coder_7d493 7 = .ok (.getfield 15, 3) := by decide +kernel
theorem dJ0_coder_10 : decode cJ0_coder_7d493 10 = .ok (.goto 4, 3) := by decide +kernel
theorem dJ0_coder_13 : decode cJ0_coder_7d493 13 = .ok (.iconst 1, 1) := by decide +kernel
theorem dJ0_coder_14 : decode cJ0_coder_7d493 14 = .ok (.ireturn, 1) := by decide +kernel
def mJ0_isLatin1 : qMt := (yJ0_isLatin1_aae02, cJ0_isLatin1_aae02, 1, (some .boolean), 0, 0)
theorem moJ0_isLatin1 : mOK mJ0_isLatin1 := ⟨show Cond.code yJ0_isLatin1_aae02 cJ0_isLatin1_aae02 1 (some .boolean) ∈ gws from g_4 34 rfl rfl, show Cond.initialized RJ0 ∈ gws from g_1 18 (by decide +kernel) rfl, show RJ0 ≠ _ ∧ RJ0 ≠ _ by decide +kernel, show plainFor yJ0_isLatin1_aae02 = true by decide +kernel⟩
theorem dJ0_isLatin1_0 : decode cJ0_isLatin1_aae02 0 = .ok (.getstatic 38, 3) := by decide +kernel
theorem dJ0_isLatin1_3 : decode cJ0_isLatin1_aae02 3 = .ok (.ifCond .eq 14, 3) := by decide +kernel
theorem dJ0_isLatin1_6 : decode cJ0_isLatin1_aae02 6 = .ok (.aload_n 0, 1) := by decide +kernel
theorem dJ0_isLatin1_7 : decode cJ0_isLatin1_aae02 7 = .ok (.getfield 15, 3) := by decide +kernel
theorem dJ0_isLatin1_10 : decode cJ0_isLatin1_aae02 10 = .ok (.ifCond .ne 7, 3) := by decide +kernel
theorem dJ0_isLatin1_13 : decode cJ0_isLatin1_aae02 13 = .ok (.iconst 1, 1) := by decide +kernel
theorem dJ0_isLatin1_14 : decode cJ0_isLatin1_aae02 14 = .ok (.goto 4, 3) := by decide +kernel
theorem dJ0_isLatin1_17 : decode cJ0_isLatin1_aae02 17 = .ok (.iconst 0, 1) := by decide +kernel
theorem dJ0_isLatin1_18 : decode cJ0_isLatin1_aae02 18 = .ok (.ireturn, 1) := by decide +kernel
def mJ0_length : qMt := (yJ0_length_8abf5, cJ0_length_8abf5, 1, (some .int), 1, 30)
theorem moJ0_length : mOK mJ0_length := ⟨show Cond.code yJ0_length_8abf5 cJ0_length_8abf5 1 (some .int) ∈ gws from g_4 20 rfl rfl, show Cond.initialized RJ0 ∈ gws from g_1 18 (by decide +kernel) rfl, show RJ0 ≠ _ ∧ RJ0 ≠ _ by decide +kernel, show plainFor yJ0_length_8abf5 = true by decide +kernel⟩
theorem dJ0_length_0 : decode cJ0_length_8abf5 0 = .ok (.aload_n 0, 1) := by decide +kernel
theorem dJ0_length_1 : decode cJ0_length_8abf5 1 = .ok (.getfield 9, 3) := by decide +kernel
theorem dJ0_length_4 : decode cJ0_length_8abf5 4 = .ok (.arraylength, 1) := by decide +kernel
theorem dJ0_length_5 : decode cJ0_length_8abf5 5 = .ok (.aload_n 0, 1) := by decide +kernel
theorem dJ0_length_6 : decode cJ0_length_8abf5 6 = .ok (.invokevirtual 335, 3) := by decide +kernel
theorem dJ0_length_9 : decode cJ0_length_8abf5 9 = .ok (.ishr, 1) := by decide +kernel
theorem dJ0_length_10 : decode cJ0_length_8abf5 10 = .ok (.ireturn, 1) := by decide +kernel
theorem ssJ3_checkIndex : sS RJ0 1059 mJ3_checkIndex 3 := ⟨moJ3_checkIndex, show (parseMethodDescriptor yJ3_checkIndex_8e157.desc).map (fun d => d.parameters.length) = some 3 by decide +kernel, show Cond.static yJ3_checkIndex_8e157 ∈ gws from g_4 44 (by decide +kernel) rfl, Or.inl (show Cond.methodLink RJ0 1059 yJ3_checkIndex_8e157 ∈ gws from g_4 43 (by decide +kernel) rfl)⟩
theorem ssJ0_checkIndex : sS RJ1 9 mJ0_checkIndex 2 := ⟨moJ0_checkIndex, show (parseMethodDescriptor yJ0_checkIndex_df160.desc).map (fun d => d.parameters.length) = some 2 by decide +kernel, show Cond.static yJ0_checkIndex_df160 ∈ gws from g_4 39 (by decide +kernel) rfl, Or.inl (show Cond.methodLink RJ1 9 yJ0_checkIndex_df160 ∈ gws from g_4 38 (by decide +kernel) rfl)⟩
theorem ssJ1_charAt : sS RJ0 495 mJ1_charAt 2 := ⟨moJ1_charAt, show (parseMethodDescriptor yJ1_charAt_3b067.desc).map (fun d => d.parameters.length) = some 2 by decide +kernel, show Cond.static yJ1_charAt_3b067 ∈ gws from g_4 36 (by decide +kernel) rfl, Or.inl (show Cond.methodLink RJ0 495 yJ1_charAt_3b067 ∈ gws from g_4 35 (by decide +kernel) rfl)⟩
theorem svJ0_charAt : sV RX6 153 mJ0_charAt 1 := ⟨moJ0_charAt, show (parseMethodDescriptor yJ0_charAt_5068e.desc).map (fun d => d.parameters.length) = some 1 by decide +kernel, show Cond.instanceMethod yJ0_charAt_5068e ∈ gws from g_4 28 (by decide +kernel) rfl, show Cond.selects RJ0 yJ0_charAt_5068e yJ0_charAt_5068e ∈ gws from g_4 29 (by decide +kernel) rfl, Or.inl (show Cond.methodLink RX6 153 yJ0_charAt_5068e ∈ gws from g_4 27 (by decide +kernel) rfl)⟩
theorem svJ0_coder : sV RJ0 335 mJ0_coder 0 := ⟨moJ0_coder, show (parseMethodDescriptor yJ0_coder_7d493.desc).map (fun d => d.parameters.length) = some 0 by decide +kernel, show Cond.instanceMethod yJ0_coder_7d493 ∈ gws from g_4 22 (by decide +kernel) rfl, show Cond.selects RJ0 yJ0_coder_7d493 yJ0_coder_7d493 ∈ gws from g_4 23 (by decide +kernel) rfl, Or.inl (show Cond.methodLink RJ0 335 yJ0_coder_7d493 ∈ gws from g_4 21 (by decide +kernel) rfl)⟩
theorem svJ0_isLatin1 : sV RJ0 492 mJ0_isLatin1 0 := ⟨moJ0_isLatin1, show (parseMethodDescriptor yJ0_isLatin1_aae02.desc).map (fun d => d.parameters.length) = some 0 by decide +kernel, show Cond.instanceMethod yJ0_isLatin1_aae02 ∈ gws from g_4 32 (by decide +kernel) rfl, show Cond.selects RJ0 yJ0_isLatin1_aae02 yJ0_isLatin1_aae02 ∈ gws from g_4 33 (by decide +kernel) rfl, Or.inl (show Cond.methodLink RJ0 492 yJ0_isLatin1_aae02 ∈ gws from g_4 31 (by decide +kernel) rfl)⟩
theorem svJ0_length : sV RX6 149 mJ0_length 0 := ⟨moJ0_length, show (parseMethodDescriptor yJ0_length_8abf5.desc).map (fun d => d.parameters.length) = some 0 by decide +kernel, show Cond.instanceMethod yJ0_length_8abf5 ∈ gws from g_4 18 (by decide +kernel) rfl, show Cond.selects RJ0 yJ0_length_8abf5 yJ0_length_8abf5 ∈ gws from g_4 19 (by decide +kernel) rfl, Or.inl (show Cond.methodLink RX6 149 yJ0_length_8abf5 ∈ gws from g_4 17 (by decide +kernel) rfl)⟩
theorem fsV : Cond.fieldLink RJ0 9 "java/lang/String" "value" "[B" ∈ gws := g_9 58 (by decide +kernel) rfl
theorem fsC : Cond.fieldLink RJ0 15 "java/lang/String" "coder" "B" ∈ gws := g_9 59 (by decide +kernel) rfl
theorem fsS : Cond.fieldLink RJ0 38 "java/lang/String" "COMPACT_STRINGS" "Z" ∈ gws := g_4 25 (by decide +kernel) rfl
theorem fsQ : Cond.fieldLink RJ0 1053 "jdk/internal/util/Preconditions" "SIOOBE_FORMATTER" "Ljava/util/function/BiFunction;" ∈ gws := g_4 41 (by decide +kernel) rfl
def lnW (w : Nat) : Nat := (strB.map List.length).getD w 0
def chW (w k : Nat) : Int32 := (strB.getD w []).getD k 0
theorem lnW_eq : ∀ w : Nat, w < 12 → lnW w = (strB.getD w []).length := by decide +kernel
theorem lnW_lt : ∀ w : Nat, w < 12 → lnW w < 10 := by decide +kernel
theorem chW_all : ∀ w : Nat, w < 12 → ∀ k : Nat, k < lnW w → (((chW w k &&& 255).toUInt32 % 65536).toInt32 = chW w k ∧ narrow .char (.int (chW w k)) = .int (chW w k)) := by decide +kernel
theorem ixW_all : ∀ k : Nat, k < 10 → ((¬ nI k < 0) ∧ (nI k).toNatClampNeg = k ∧ nI k + 1 = nI (k + 1)) ∧ ∀ n : Nat, n < 10 → (ck (nI k) n = decide (k < n) ∧ decide (nI k < nI n) = decide (k < n) ∧ decide (nI n ≤ nI k) = decide (n ≤ k) ∧ (nI n >>> ((0 : Int32) &&& 31)) = nI n) := by decide +kernel
theorem aJ3_checkIndex (i n : Int32) (v : Value) (h0 : ¬ i < 0) (h1 : i < n) (σ : qMem) : qAt wC mJ3_checkIndex (ρp σ) 0 [(0, .int i), (1, .int n), (2, v)] [] σ (some i) := by
  have e : (some i : Option Int32) = if i < 0 then none else (if i < n then some i else none) := by rw [if_neg h0, if_pos h1]
  rw [e]
  refine q_iload_n (i := 0) (x := i) dJ3_checkIndex_0 rfl 0 rfl ?_
  refine q_if_lt (tgt := 9) dJ3_checkIndex_1 (by decide) q_none ?_
  refine q_iload_n (i := 0) (x := i) dJ3_checkIndex_4 rfl 0 rfl ?_
  refine q_iload_n (i := 1) (x := n) dJ3_checkIndex_5 rfl 1 rfl ?_
  refine q_icmp_lt (tgt := 16) dJ3_checkIndex_6 (by decide) ?_ q_none
  refine q_iload_n (i := 0) (x := i) dJ3_checkIndex_16 rfl 0 rfl ?_
  exact q_ireti (y := i) dJ3_checkIndex_17 rfl rfl
theorem kJ3_checkIndex (i n : Int32) (v : Value) (hv : v = .null ∨ v = .ref 1050) (h0 : ¬ i < 0) (h1 : i < n) (σ : qMem) : qMc wC mJ3_checkIndex (ρp σ) [.int i, .int n, v] σ (some i) := by
  rcases hv with rfl | rfl
  · exact qMc_of moJ3_checkIndex (Nat.le_of_ble_eq_true rfl) (aJ3_checkIndex i n _ h0 h1 σ)
  · exact qMc_of moJ3_checkIndex (Nat.le_of_ble_eq_true rfl) (aJ3_checkIndex i n _ h0 h1 σ)
theorem kJ0_checkIndex (i n : Int32) (h0 : ¬ i < 0) (h1 : i < n) (σ : qMem) : qMc wC mJ0_checkIndex ρv [.int i, .int n] σ (some σ) := by
  refine qMc_of moJ0_checkIndex (Nat.le_of_ble_eq_true rfl) (show qAt wC mJ0_checkIndex ρv 0 [(0, .int i), (1, .int n)] [] σ (some σ) from ?_)
  refine q_iload_n (i := 0) (x := i) dJ0_checkIndex_0 rfl 0 rfl ?_
  refine q_iload_n (i := 1) (x := n) dJ0_checkIndex_1 rfl 1 rfl ?_
  refine q_gsQ rfl dJ0_checkIndex_2 fsQ (fun v hv => ?_)
  have e : (some σ : Option qMem) = (some i : Option Int32).bind (fun _ => some σ) := rfl
  rw [e]
  refine q_cSp mJ3_checkIndex [.int i, .int n, v] (st := []) dJ0_checkIndex_5 ssJ3_checkIndex ⟨Nat.le_of_ble_eq_true rfl, Nat.le_of_ble_eq_true rfl⟩ rfl rfl (Nat.le_of_ble_eq_true rfl) (kJ3_checkIndex i n v hv h0 h1 σ) (fun y => ?_)
  refine q_pop dJ0_checkIndex_8 rfl ?_
  exact q_vret (y := σ) dJ0_checkIndex_9 rfl rfl
theorem kJ1_charAt (w : Nat) (hw : w < 12) (k : Nat) (hk : k < lnW w) (σ : qMem) : qMc wC mJ1_charAt (ρp σ) [.ref (1030 + w), .int (nI k)] σ (some (chW w k)) := by
  have hl := lnW_lt w hw
  obtain ⟨⟨i1, i2, i3⟩, i4⟩ := ixW_all k (by omega)
  obtain ⟨i5, i6, i7, i8⟩ := i4 (lnW w) hl
  obtain ⟨c1, c2⟩ := chW_all w hw k hk
  refine qMc_of moJ1_charAt (Nat.le_of_ble_eq_true rfl) (show qAt wC mJ1_charAt (ρp σ) 0 [(0, .ref (1030 + w)), (1, .int (nI k))] [] σ (some (chW w k)) from ?_)
  refine q_iload_n (i := 1) (x := nI k) dJ1_charAt_0 rfl 1 rfl ?_
  refine q_aload_n (i := 0) (x := 1030 + w) dJ1_charAt_1 rfl 0 rfl ?_
  refine q_vlen hw rfl dJ1_charAt_2 ?_
  have e : (some (chW w k) : Option Int32) = (some σ : Option qMem).bind (fun _ => some (chW w k)) := rfl
  rw [e]
  refine q_cS mJ0_checkIndex [.int (nI k), .int (nI (lnW w))] (ρ' := fun q => (none, σ)) (st := []) dJ1_charAt_3 ssJ0_checkIndex ⟨Nat.le_of_ble_eq_true rfl, Nat.le_of_ble_eq_true rfl⟩ rfl rfl (Nat.le_of_ble_eq_true rfl) ?_ (fun y => ?_)
  · exact fun a ha => kJ0_checkIndex (nI k) (nI (lnW w)) i1 (of_decide_eq_true (by rw [i6]; exact decide_eq_true hk)) σ σ rfl
  refine q_aload_n (i := 0) (x := 1030 + w) dJ1_charAt_6 rfl 0 rfl ?_
  refine q_iload_n (i := 1) (x := nI k) dJ1_charAt_7 rfl 1 rfl ?_
  refine q_vald hw rfl (by rw [show (strB.map List.length).getD w 0 = lnW w from rfl, i5]; exact decide_eq_true hk) dJ1_charAt_8 ?_
  rw [i2]
  refine q_sipush (v := 255) dJ1_charAt_9 (by decide) ?_
  refine q_iand dJ1_charAt_12 ?_
  refine q_i2c dJ1_charAt_13 ?_
  rw [show (strB.getD w []).getD k 0 = chW w k from rfl, c1]
  exact q_iretz (y := chW w k) dJ1_charAt_14 rfl c2 rfl
theorem kJ0_isLatin1 (w : Nat) (hw : w < 12) (σ : qMem) : qMc wC mJ0_isLatin1 (ρp σ) [.ref (1010 + w)] σ (some 1) := by
  refine qMc_of moJ0_isLatin1 (Nat.le_of_ble_eq_true rfl) (show qAt wC mJ0_isLatin1 (ρp σ) 0 [(0, .ref (1010 + w))] [] σ (some 1) from ?_)
  refine q_gsS rfl dJ0_isLatin1_0 fsS ?_
  have e : (some 1 : Option Int32) = if (1 : Int32) = 0 then none else (if (0 : Int32) = 0 then some 1 else none) := rfl
  rw [e]
  refine q_if_eq (tgt := 17) dJ0_isLatin1_3 (by decide) q_none ?_
  refine q_aload_n (i := 0) (x := 1010 + w) dJ0_isLatin1_6 rfl 0 rfl ?_
  refine q_gsC hw rfl dJ0_isLatin1_7 fsC ?_
  refine q_if_ne (tgt := 17) dJ0_isLatin1_10 (by decide) q_none ?_
  refine q_iconst (v := 1) dJ0_isLatin1_13 (by decide) ?_
  refine q_goto (tgt := 18) dJ0_isLatin1_14 (by decide) ?_
  exact q_iretz (y := 1) dJ0_isLatin1_18 rfl rfl rfl
theorem kJ0_coder (w : Nat) (hw : w < 12) (σ : qMem) : qMc wC mJ0_coder (ρp σ) [.ref (1010 + w)] σ (some 0) := by
  refine qMc_of moJ0_coder (Nat.le_of_ble_eq_true rfl) (show qAt wC mJ0_coder (ρp σ) 0 [(0, .ref (1010 + w))] [] σ (some 0) from ?_)
  refine q_gsS rfl dJ0_coder_0 fsS ?_
  have e : (some 0 : Option Int32) = if (1 : Int32) = 0 then none else some 0 := rfl
  rw [e]
  refine q_if_eq (tgt := 13) dJ0_coder_3 (by decide) q_none ?_
  refine q_aload_n (i := 0) (x := 1010 + w) dJ0_coder_6 rfl 0 rfl ?_
  refine q_gsC hw rfl dJ0_coder_7 fsC ?_
  refine q_goto (tgt := 14) dJ0_coder_10 (by decide) ?_
  exact q_iretz (y := 0) dJ0_coder_14 rfl rfl rfl
theorem kJ0_length (w : Nat) (hw : w < 12) (σ : qMem) : qMc wC mJ0_length (ρp σ) [.ref (1010 + w)] σ (some (nI (lnW w))) := by
  have hl := lnW_lt w hw
  obtain ⟨-, i4⟩ := ixW_all 0 (by omega)
  obtain ⟨i5, i6, i7, i8⟩ := i4 (lnW w) hl
  refine qMc_of moJ0_length (Nat.le_of_ble_eq_true rfl) (show qAt wC mJ0_length (ρp σ) 0 [(0, .ref (1010 + w))] [] σ (some (nI (lnW w))) from ?_)
  refine q_aload_n (i := 0) (x := 1010 + w) dJ0_length_0 rfl 0 rfl ?_
  refine q_gsV hw rfl dJ0_length_1 fsV ?_
  refine q_vlen hw rfl dJ0_length_4 ?_
  refine q_aload_n (i := 0) (x := 1010 + w) dJ0_length_5 rfl 0 rfl ?_
  have e : (some (nI (lnW w)) : Option Int32) = (some 0 : Option Int32).bind (fun y => some (nI (lnW w) >>> (y &&& 31))) := by
    show _ = some (nI (lnW w) >>> ((0 : Int32) &&& 31))
    rw [i8]
  rw [e]
  refine q_cVs mJ0_coder [] (st := [.int (nI (lnW w))]) hw rfl dJ0_length_6 svJ0_coder ⟨Nat.le_of_ble_eq_true rfl, Nat.le_of_ble_eq_true rfl⟩ rfl rfl rfl (Nat.le_of_ble_eq_true rfl) (kJ0_coder w hw σ) (fun y => ?_)
  refine q_ishr dJ0_length_9 ?_
  exact q_ireti (y := nI (lnW w) >>> (y &&& 31)) dJ0_length_10 rfl rfl
theorem kJ0_charAt (w : Nat) (hw : w < 12) (k : Nat) (hk : k < lnW w) (σ : qMem) : qMc wC mJ0_charAt (ρp σ) [.ref (1010 + w), .int (nI k)] σ (some (chW w k)) := by
  obtain ⟨c1, c2⟩ := chW_all w hw k hk
  refine qMc_of moJ0_charAt (Nat.le_of_ble_eq_true rfl) (show qAt wC mJ0_charAt (ρp σ) 0 [(0, .ref (1010 + w)), (1, .int (nI k))] [] σ (some (chW w k)) from ?_)
  refine q_aload_n (i := 0) (x := 1010 + w) dJ0_charAt_0 rfl 0 rfl ?_
  have e : (some (chW w k) : Option Int32) = (some 1 : Option Int32).bind (fun y => if y = 0 then none else some (chW w k)) := rfl
  rw [e]
  refine q_cVs mJ0_isLatin1 [] (st := []) hw rfl dJ0_charAt_1 svJ0_isLatin1 ⟨Nat.le_of_ble_eq_true rfl, Nat.le_of_ble_eq_true rfl⟩ rfl rfl rfl (Nat.le_of_ble_eq_true rfl) (kJ0_isLatin1 w hw σ) (fun y => ?_)
  refine q_if_eq (tgt := 16) dJ0_charAt_4 (by decide) q_none ?_
  refine q_aload_n (i := 0) (x := 1010 + w) dJ0_charAt_7 rfl 0 rfl ?_
  refine q_gsV hw rfl dJ0_charAt_8 fsV ?_
  refine q_iload_n (i := 1) (x := nI k) dJ0_charAt_11 rfl 1 rfl ?_
  have e : (some (chW w k) : Option Int32) = (some (chW w k) : Option Int32).bind (fun y => if narrow .char (.int y) = .int y then some y else none) := by
    show _ = if narrow .char (.int (chW w k)) = .int (chW w k) then some (chW w k) else none
    rw [if_pos c2]
  rw [e]
  refine q_cSp mJ1_charAt [.ref (1030 + w), .int (nI k)] (st := []) dJ0_charAt_12 ssJ1_charAt ⟨Nat.le_of_ble_eq_true rfl, Nat.le_of_ble_eq_true rfl⟩ rfl rfl (Nat.le_of_ble_eq_true rfl) (kJ1_charAt w hw k hk σ) (fun y => ?_)
  refine q_if (fun h => ?_)
  exact q_iretz (y := y) dJ0_charAt_15 rfl h rfl
theorem dX6_isWord_0 : decode cX6_isWord 0 = .ok (.aload_n 0, 1) := by decide +kernel
theorem dX6_isWord_1 : decode cX6_isWord 1 = .ok (.getfield 26, 3) := by decide +kernel
theorem dX6_isWord_4 : decode cX6_isWord 4 = .ok (.ifCond .ne 19, 3) := by decide +kernel
theorem dX6_isWord_7 : decode cX6_isWord 7 = .ok (.aload_n 0, 1) := by decide +kernel
theorem dX6_isWord_8 : decode cX6_isWord 8 = .ok (.getfield 32, 3) := by decide +kernel
theorem dX6_isWord_11 : decode cX6_isWord 11 = .ok (.aload_n 0, 1) := by decide +kernel
theorem dX6_isWord_12 : decode cX6_isWord 12 = .ok (.getfield 29, 3) := by decide +kernel
theorem dX6_isWord_15 : decode cX6_isWord 15 = .ok (.isub, 1) := by decide +kernel
theorem dX6_isWord_16 : decode cX6_isWord 16 = .ok (.aload_n 1, 1) := by decide +kernel
theorem dX6_isWord_17 : decode cX6_isWord 17 = .ok (.invokevirtual 149, 3) := by decide +kernel
theorem dX6_isWord_20 : decode cX6_isWord 20 = .ok (.if_icmp .eq 5, 3) := by decide +kernel
theorem dX6_isWord_23 : decode cX6_isWord 23 = .ok (.iconst 0, 1) := by decide +kernel
theorem dX6_isWord_24 : decode cX6_isWord 24 = .ok (.ireturn, 1) := by decide +kernel
theorem dX6_isWord_25 : decode cX6_isWord 25 = .ok (.iconst 0, 1) := by decide +kernel
theorem dX6_isWord_26 : decode cX6_isWord 26 = .ok (.istore_n 2, 1) := by decide +kernel
theorem dX6_isWord_27 : decode cX6_isWord 27 = .ok (.iload_n 2, 1) := by decide +kernel
theorem dX6_isWord_28 : decode cX6_isWord 28 = .ok (.aload_n 1, 1) := by decide +kernel
theorem dX6_isWord_29 : decode cX6_isWord 29 = .ok (.invokevirtual 149, 3) := by decide +kernel
theorem dX6_isWord_32 : decode cX6_isWord 32 = .ok (.if_icmp .ge 30, 3) := by decide +kernel
theorem dX6_isWord_35 : decode cX6_isWord 35 = .ok (.aload_n 0, 1) := by decide +kernel
theorem dX6_isWord_36 : decode cX6_isWord 36 = .ok (.getfield 18, 3) := by decide +kernel
theorem dX6_isWord_39 : decode cX6_isWord 39 = .ok (.aload_n 0, 1) := by decide +kernel
theorem dX6_isWord_40 : decode cX6_isWord 40 = .ok (.getfield 29, 3) := by decide +kernel
theorem dX6_isWord_43 : decode cX6_isWord 43 = .ok (.iload_n 2, 1) := by decide +kernel
theorem dX6_isWord_44 : decode cX6_isWord 44 = .ok (.iadd, 1) := by decide +kernel
theorem dX6_isWord_45 : decode cX6_isWord 45 = .ok (.iaload, 1) := by decide +kernel
theorem dX6_isWord_46 : decode cX6_isWord 46 = .ok (.aload_n 1, 1) := by decide +kernel
theorem dX6_isWord_47 : decode cX6_isWord 47 = .ok (.iload_n 2, 1) := by decide +kernel
theorem dX6_isWord_48 : decode cX6_isWord 48 = .ok (.invokevirtual 153, 3) := by decide +kernel
theorem dX6_isWord_51 : decode cX6_isWord 51 = .ok (.if_icmp .eq 5, 3) := by decide +kernel
theorem dX6_isWord_54 : decode cX6_isWord 54 = .ok (.iconst 0, 1) := by decide +kernel
theorem dX6_isWord_55 : decode cX6_isWord 55 = .ok (.ireturn, 1) := by decide +kernel
theorem dX6_isWord_56 : decode cX6_isWord 56 = .ok (.iinc 2 1, 3) := by decide +kernel
theorem dX6_isWord_59 : decode cX6_isWord 59 = .ok (.goto (-32), 3) := by decide +kernel
theorem dX6_isWord_62 : decode cX6_isWord 62 = .ok (.iconst 1, 1) := by decide +kernel
theorem dX6_isWord_63 : decode cX6_isWord 63 = .ok (.ireturn, 1) := by decide +kernel
theorem getD_in {l : List Int32} {k : Nat} (h : k < l.length) : l.getD k 0 = l[k] := by
  rw [List.getD_eq_getElem?_getD, List.getElem?_eq_getElem h]; rfl
def wdC (σ : qMem) : List Int32 → Int32 → Option Int32
  | [], _ => some 1
  | b :: bs, j => if (gi σ 77 1).toNatClampNeg = 86 then (if ck (gi σ 77 4 + j) 400 = true then (if gi σ 86 (gi σ 77 4 + j).toNatClampNeg = b then wdC σ bs (j + 1) else some 0) else none) else none
def fX6_isWord (w : Nat) (σ : qMem) : Option Int32 :=
  if gi σ 77 3 = 0 then (if gi σ 77 5 - gi σ 77 4 = nI (strB.getD w []).length then wdC σ (strB.getD w []) 0 else some 0) else some 0
theorem aX6_isWord_l27 (w : Nat) (hw : w < 12) (σ : qMem) : ∀ (bs : List Int32) (k : Nat), k ≤ lnW w → (strB.getD w []).drop k = bs → qAt wC mX6_isWord (ρp σ) 27 [(2, .int (nI k)), (0, .ref 77), (1, .ref (1010 + w))] [] σ (wdC σ bs (nI k)) := by
  have hl := lnW_lt w hw
  have hle := lnW_eq w hw
  intro bs
  induction bs with
  | nil =>
    intro k hk hd
    have hk2 : lnW w ≤ k := by rw [hle]; exact List.drop_eq_nil_iff.mp hd
    obtain ⟨⟨i1, i2, i3⟩, i4⟩ := ixW_all k (by omega)
    obtain ⟨i5, i6, i7, i8⟩ := i4 (lnW w) hl
    have g : nI (lnW w) ≤ nI k := of_decide_eq_true (by rw [i7]; exact decide_eq_true hk2)
    have e : wdC σ [] (nI k) = (some (nI (lnW w)) : Option Int32).bind (fun y => if y ≤ nI k then some 1 else none) := by
      show some 1 = if nI (lnW w) ≤ nI k then some 1 else none
      rw [if_pos g]
    rw [e]
    refine q_iload_n (i := 2) (x := nI k) dX6_isWord_27 rfl 0 rfl ?_
    refine q_aload_n (i := 1) (x := 1010 + w) dX6_isWord_28 rfl 2 rfl ?_
    refine q_cVs mJ0_length [] (st := [.int (nI k)]) hw rfl dX6_isWord_29 svJ0_length ⟨Nat.le_of_ble_eq_true rfl, Nat.le_of_ble_eq_true rfl⟩ rfl rfl rfl (Nat.le_of_ble_eq_true rfl) (kJ0_length w hw σ) (fun y => ?_)
    refine q_icmp_ge (tgt := 62) dX6_isWord_32 (by decide) ?_ q_none
    refine q_iconst (v := 1) dX6_isWord_62 (by decide) ?_
    exact q_iretz (y := 1) dX6_isWord_63 rfl rfl rfl
  | cons b bs ih =>
    intro k hk hd
    have hlt : k < (strB.getD w []).length := by
      rcases Nat.lt_or_ge k (strB.getD w []).length with h | h
      · exact h
      · rw [List.drop_eq_nil_of_le h] at hd; cases hd
    have hk2 : k < lnW w := by rw [hle]; exact hlt
    obtain ⟨⟨i1, i2, i3⟩, i4⟩ := ixW_all k (by omega)
    obtain ⟨i5, i6, i7, i8⟩ := i4 (lnW w) hl
    have g : ¬ nI (lnW w) ≤ nI k := of_decide_eq_false (by rw [i7]; exact decide_eq_false (by omega))
    have hd2 := List.drop_eq_getElem_cons hlt
    rw [hd] at hd2
    have hb : b = chW w k := by
      have := (List.cons.inj hd2).1
      rw [this]
      exact (getD_in hlt).symm
    have hbs : (strB.getD w []).drop (k + 1) = bs := (List.cons.inj hd2).2.symm
    have e : wdC σ (b :: bs) (nI k) = (some (nI (lnW w)) : Option Int32).bind (fun y => if y ≤ nI k then none else (if (gi σ 77 1).toNatClampNeg = 86 then (if ck (gi σ 77 4 + nI k) 400 = true then ((some (chW w k) : Option Int32).bind (fun z => if gi σ 86 (gi σ 77 4 + nI k).toNatClampNeg = z then wdC σ bs (nI (k + 1)) else some 0)) else none) else none)) := by
      show wdC σ (b :: bs) (nI k) = if nI (lnW w) ≤ nI k then none else _
      rw [if_neg g, ← i3, ← hb]
      rfl
    rw [e]
    refine q_iload_n (i := 2) (x := nI k) dX6_isWord_27 rfl 0 rfl ?_
    refine q_aload_n (i := 1) (x := 1010 + w) dX6_isWord_28 rfl 2 rfl ?_
    refine q_cVs mJ0_length [] (st := [.int (nI k)]) hw rfl dX6_isWord_29 svJ0_length ⟨Nat.le_of_ble_eq_true rfl, Nat.le_of_ble_eq_true rfl⟩ rfl rfl rfl (Nat.le_of_ble_eq_true rfl) (kJ0_length w hw σ) (fun y => ?_)
    refine q_icmp_ge (tgt := 62) dX6_isWord_32 (by decide) q_none ?_
    refine q_aload_n (i := 0) (x := 77) dX6_isWord_35 rfl 1 rfl ?_
    refine q_getd (t := 86) dX6_isWord_36 foX6_18 zC_77 rfl ?_
    refine q_aload_n (i := 0) (x := 77) dX6_isWord_39 rfl 1 rfl ?_
    refine q_geti dX6_isWord_40 foX6_29 zC_77 rfl ?_
    refine q_iload_n (i := 2) (x := nI k) dX6_isWord_43 rfl 0 rfl ?_
    refine q_iadd dX6_isWord_44 ?_
    refine q_iald dX6_isWord_45 zC_86 ?_
    refine q_aload_n (i := 1) (x := 1010 + w) dX6_isWord_46 rfl 2 rfl ?_
    refine q_iload_n (i := 2) (x := nI k) dX6_isWord_47 rfl 0 rfl ?_
    refine q_cVs mJ0_charAt [.int (nI k)] (st := [.int (gi σ 86 (gi σ 77 4 + nI k).toNatClampNeg)]) hw rfl dX6_isWord_48 svJ0_charAt ⟨Nat.le_of_ble_eq_true rfl, Nat.le_of_ble_eq_true rfl⟩ rfl rfl rfl (Nat.le_of_ble_eq_true rfl) (kJ0_charAt w hw k hk2 σ) (fun z => ?_)
    refine q_icmp_eq (tgt := 56) dX6_isWord_51 (by decide) ?_ ?_
    · refine q_iinc (i := 2) (x := nI k) (v := nI (k + 1)) (L' := [(2, .int (nI (k + 1))), (0, .ref 77), (1, .ref (1010 + w))]) dX6_isWord_56 0 rfl i3 (by decide) rfl ?_
      refine q_goto (tgt := 27) dX6_isWord_59 (by decide) ?_
      exact ih (k + 1) (by omega) hbs
    · refine q_iconst (v := 0) dX6_isWord_54 (by decide) ?_
      exact q_iretz (y := 0) dX6_isWord_55 rfl rfl rfl
theorem aX6_isWord (w : Nat) (hw : w < 12) (σ : qMem) : qAt wC mX6_isWord (ρp σ) 0 [(0, .ref 77), (1, .ref (1010 + w))] [] σ (fX6_isWord w σ) := by
  have e : fX6_isWord w σ = if gi σ 77 3 = 0 then ((some (nI (lnW w)) : Option Int32).bind (fun y => if gi σ 77 5 - gi σ 77 4 = y then wdC σ (strB.getD w []) 0 else some 0)) else some 0 := by
    unfold fX6_isWord
    rw [← lnW_eq w hw]
    rfl
  rw [e]
  refine q_aload_n (i := 0) (x := 77) dX6_isWord_0 rfl 0 rfl ?_
  refine q_geti dX6_isWord_1 foX6_26 zC_77 rfl ?_
  refine q_if_ne (tgt := 23) dX6_isWord_4 (by decide) ?_ ?_
  · refine q_iconst (v := 0) dX6_isWord_23 (by decide) ?_
    exact q_iretz (y := 0) dX6_isWord_24 rfl rfl rfl
  refine q_aload_n (i := 0) (x := 77) dX6_isWord_7 rfl 0 rfl ?_
  refine q_geti dX6_isWord_8 foX6_32 zC_77 rfl ?_
  refine q_aload_n (i := 0) (x := 77) dX6_isWord_11 rfl 0 rfl ?_
  refine q_geti dX6_isWord_12 foX6_29 zC_77 rfl ?_
  refine q_isub dX6_isWord_15 ?_
  refine q_aload_n (i := 1) (x := 1010 + w) dX6_isWord_16 rfl 1 rfl ?_
  refine q_cVs mJ0_length [] (st := [.int (gi σ 77 5 - gi σ 77 4)]) hw rfl dX6_isWord_17 svJ0_length ⟨Nat.le_of_ble_eq_true rfl, Nat.le_of_ble_eq_true rfl⟩ rfl rfl rfl (Nat.le_of_ble_eq_true rfl) (kJ0_length w hw σ) (fun y => ?_)
  refine q_icmp_eq (tgt := 25) dX6_isWord_20 (by decide) ?_ ?_
  · refine q_iconst (v := nI 0) dX6_isWord_25 (by decide) ?_
    refine q_istore_n (i := 2) (L' := [(2, .int (nI 0)), (0, .ref 77), (1, .ref (1010 + w))]) dX6_isWord_26 rfl (by decide) rfl ?_
    exact aX6_isWord_l27 w hw σ _ 0 (Nat.zero_le _) rfl
  · refine q_iconst (v := 0) dX6_isWord_23 (by decide) ?_
    exact q_iretz (y := 0) dX6_isWord_24 rfl rfl rfl
theorem kX6_isWord (w : Nat) (hw : w < 12) (σ : qMem) : qMc wC mX6_isWord (ρp σ) [.ref 77, .ref (1010 + w)] σ (fX6_isWord w σ) := qMc_of moX6_isWord (Nat.le_of_ble_eq_true rfl) (aX6_isWord w hw σ)
