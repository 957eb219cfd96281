/-! the law's entry walked -/
theorem d_l0 : decode code 0 = .ok (.new 7, 3) := by decide +kernel
theorem d_l3 : decode code 3 = .ok (.dup, 1) := by decide +kernel
theorem d_l4 : decode code 4 = .ok (.invokespecial 9, 3) := by decide +kernel
theorem d_l7 : decode code 7 = .ok (.astore_n 1, 1) := by decide +kernel
theorem d_l8 : decode code 8 = .ok (.new 10, 3) := by decide +kernel
theorem d_l11 : decode code 11 = .ok (.dup, 1) := by decide +kernel
theorem d_l12 : decode code 12 = .ok (.invokespecial 12, 3) := by decide +kernel
theorem d_l15 : decode code 15 = .ok (.astore_n 2, 1) := by decide +kernel
theorem d_l16 : decode code 16 = .ok (.iconst 0, 1) := by decide +kernel
theorem d_l17 : decode code 17 = .ok (.istore_n 3, 1) := by decide +kernel
theorem lenC : wC.1.length = 171 := by decide +kernel
theorem lenM : wM.1.length = 27 := by decide +kernel
theorem x_init {S : qWo} (M' : qMt) {p : Program} {l : Launch} {e : Env} {s : State} {m : MethodId} {args : Array Value} {below : List Frame} {meth : Method} {c : Code} {H : Heap} {locs : List Loc} {Q : State → Prop} {ls : Array Slot} {rest : List Value} {D : va_G} {ad : Nat → Nat} {dA : FieldType → ClassId} {τ : qMem} {b0 cl sl pc idx n1 mc1 ms1 : Nat}
    (hx : p.tables.exec = Jvm.exec) (hb : c.code = code) (hml : c.maxLocals = 4) (hown : s.vm.findClass R_law = some m.cls) (hg : ∀ w ∈ gws, w.before args s = true) (hK : va_K D vwCl (qtys dA) s) (hN : ∀ w ∈ nws, va_Nw w s) (hO : ∀ C ∈ qObj, va_AO C s) (hXc : S.2 = true → Xc ad (fun q => b0 ≤ q) s)
    (hd : decode code pc = .ok (.invokespecial idx, 3)) (hs : sI R_law idx M' 0) (hR : M'.2.2.2.2.1 + 1 ≤ 2048 ∧ 8 + (M'.2.2.1 + 11) + M'.2.2.2.2.2 ≤ 84000) (had : ∀ k, k < S.1.length → ad k = b0 + k) (had0 : ad 0 = b0) (hM : qMn S M' [.ref 0] 1 ini0 n1 mc1 ms1 (some τ))
    (hP : va_P D vwCl (dW S ad dA ini0 1) H) (hH : H.size = b0 + 1) (hS : va_S (fun q => s.heap.size ≤ q) s.heap H locs) (hb0 : s.heap.size ≤ b0) (hls : ls.size = 4) (hw : (rest.map fun v => v.category).sum ≤ 8) (hcs : cl + mc1 ≤ 600000 ∧ sl + ms1 ≤ 7302250)
    (kk : ∀ (H1 : Heap) (locs1 : List Loc), va_P D vwCl (dW S ad dA τ n1) H1 → (∀ q : Nat, q < H.size → ¬ b0 ≤ q → H1[q]? = H[q]?) → va_S (fun q => s.heap.size ≤ q) s.heap H1 locs1 → W p l e room_1 s m args below meth c H1 locs1 (cl + mc1) (sl + ms1) Q (F0 m (pc + 3) ls rest)) : W p l e room_1 s m args below meth c H locs cl sl Q (F0 m pc ls (.ref b0 :: rest)) := by
  obtain ⟨hm, hp, hin, hrn, hins, hlink⟩ := hs
  have hGood := gws_ws hm
  obtain ⟨-, f2⟩ := hM qZ0 τ rfl
  have hM' := f2 l D ad dA b0 had
  have hpre : PreS s H (qPn S D ad dA b0 [.ref 0] 1 ini0) (.ref (ad 0) :: []) := ⟨qPn_blind, fun U hU hW => ⟨rfl, by rw [hU]; exact hP, by rw [hU]; exact hH, va_K.moved hW.alike hK, fun w hw => nws_warm hw hW (hN w hw), fun C hC => va_AO.moved hW.alike (hO C hC), fun h => (hXc h).go hW (fun q h1 h2 => by rw [hU]; exact hS.2.1 q h1 (Nat.not_le.mpr h1))⟩⟩
  have hstk : (F0 m pc ls (.ref b0 :: rest)).stack = ([] : List Value).reverse ++ .ref (ad 0) :: rest := by rw [had0]; rfl
  have hroom : 2 * (F0 m pc ls (.ref b0 :: rest)).monitorRoom + (rest.map fun v => v.category).sum ≤ 8 := lv_room hw
  rcases hlink with hlink | ⟨host, hlink⟩
  · exact x_run (va_runI (bytes := M'.2.1) (maxL := M'.2.2.1) (n := 0) (As := []) (rest := rest) (b := ad 0) ⟨hx, hb, hml, hown, hg⟩ hM' ⟨callB_of 0 hg hGood (by unfold wsM; rw [hrn]) rfl rfl (hg _ hm.2.1) (hg _ hlink) ⟨hm.2.2.1.1, hm.2.2.1.2, hp⟩ hR, hin, hg _ hins⟩ hpre rfl rfl hls hstk hroom hd hcs) hS hb0 kk
  · exact x_run (va_runIN (bytes := M'.2.1) (maxL := M'.2.2.1) (n := 0) (host := host) (As := []) (rest := rest) (b := ad 0) ⟨hx, hb, hml, hown, hg⟩ hM' ⟨va_cnB 0 hg hGood (by unfold wsM; rw [hrn]) rfl rfl (hN _ hlink) (hg _ hm.2.1) ⟨hm.2.2.1.1, hm.2.2.1.2, hp⟩ hR, hin, hg _ hins⟩ hpre rfl rfl hls hstk hroom hd hcs) hS hb0 kk
theorem whole_start {p : Program} {e : Env} {s : State} {m : MethodId} {below : List Frame} {meth : Method} {c : Code} (l : Launch) {b L : Nat} {xs : Nat → Int32} (hL : L ≤ 3072) (C0 : lw_At p s m meth c b L xs) : W p l e room_1 s m #[Value.ref b] below meth c s.heap [] 0 0 (lw_Z below #[Value.ref b] s) (entryFrame m ([Value.ref b] : List Value).toArray 4) := by
  obtain ⟨hx, hb, hr, hml, hown, hts, hX, hbl, hlocks, hgv⟩ := id C0
  have hg : ∀ w ∈ gws, w.before #[Value.ref b] s = true := fun w hw => hts w (List.mem_filter.mp hw).1
  have hN : ∀ w ∈ nws, va_Nw w s := fun w hw => va_Nw.of (nws_tab hw) (hts w (List.mem_filter.mp hw).1)
  have hO : ∀ C ∈ qObj, va_AO C s := fun C hC => va_AO.of (hts _ (ao_all C hC))
  obtain ⟨D, dA, hK⟩ := ent_K hts
  obtain ⟨f, hf⟩ := ent_X (A := fun q => s.heap.size ≤ q) hts hgv (fun a h => Nat.not_le.mpr h)
  have hXc := hf s.heap.size
  have hadC : ∀ k, k < wC.1.length → enC s.heap.size f k = s.heap.size + k := fun k hk => by
    rw [lenC] at hk
    show (if k < 1000 then s.heap.size + k else f k) = _
    rw [if_pos (by omega)]
  have hadM : ∀ k, k < wM.1.length → enM s.heap.size k = s.heap.size + 171 + k := fun _ _ => rfl
  have a0C : enC s.heap.size f 0 = s.heap.size := hadC 0 (by rw [lenC]; decide)
  have a0M : enM s.heap.size 0 = s.heap.size + 171 := rfl
  have hl := lv_entry ([.ref b]) (n := 4) (Nat.le_of_ble_eq_true rfl)
  rw [lg_entry_eq]
  generalize (lg_sl ([.ref b]) ++ List.replicate (4 - (lg_sl ([.ref b])).length) Slot.unset).toArray = ls at hl ⊢
  have hl : lv_has ls 4 [(0, .ref b)] := hl
  refine x_new (S := wC) (D := D) (ad := enC s.heap.size f) (dA := dA) (b0 := s.heap.size) hx hb hown hg hK d_l0 coL_X11 zC_0 (by decide +kernel) ⟨by decide, by decide⟩ rfl a0C (fun H1 hP1 hz1 ho1 => ?_)
  have hS1 : va_S (fun q => s.heap.size ≤ q) s.heap H1 [] := ⟨by omega, fun q h1 _ => ho1 q h1, fun q h => by cases h⟩
  refine lv_dup hx hb d_l3 rfl ?_
  refine x_init (S := wC) mX11_init (rest := [.ref s.heap.size]) (D := D) (ad := enC s.heap.size f) (dA := dA) (τ := iC) (b0 := s.heap.size) (n1 := 171) (mc1 := 170) (ms1 := 12602) hx hb hml hown hg hK hN hO (fun _ => hXc) d_l4 siL_X11 ⟨by decide, by decide⟩ hadC a0C (by rw [← iC_some]; exact knX11_init ini0) hP1 hz1 hS1 (Nat.le_refl _) hl.1 (Nat.le_of_ble_eq_true rfl) ⟨by decide, by decide⟩ (fun H2 locs2 hP2 hk2 hS2 => ?_)
  refine W.sz (fun hu => ?_)
  have hz2 : H2.size = s.heap.size + 171 := dW_size (cl := 171) hadC (by rw [lenC]; exact Nat.le_refl _) hP2 rfl hS2 (Nat.le_refl _) hu
  refine lv_astore_n (lv' := [(1, .ref s.heap.size), (0, .ref b)]) hx hb d_l7 rfl hl (by decide) rfl (fun ls hl => ?_)
  refine x_new (S := wM) (D := D) (ad := enM s.heap.size) (dA := dA) (b0 := s.heap.size + 171) hx hb hown hg hK d_l8 coL_X12 zM_0 (by decide +kernel) ⟨by decide, by decide⟩ hz2 a0M (fun H3 hP3 hz3 ho3 => ?_)
  have hS3 : va_S (fun q => s.heap.size ≤ q) s.heap H3 locs2 := ⟨by omega, fun q h1 h2 => (ho3 q (by omega)).trans (hS2.2.1 q h1 h2), hS2.2.2⟩
  refine lv_dup hx hb d_l11 rfl ?_
  refine x_init (S := wM) mX12_init (rest := [.ref (s.heap.size + 171)]) (D := D) (ad := enM s.heap.size) (dA := dA) (τ := iM) (b0 := s.heap.size + 171) (n1 := 27) (mc1 := 26) (ms1 := 126049) hx hb hml hown hg hK hN hO (fun z => by cases z) d_l12 siL_X12 ⟨by decide, by decide⟩ hadM a0M (by rw [← iM_some]; exact knX12_init ini0) hP3 hz3 hS3 (by omega) hl.1 (Nat.le_of_ble_eq_true rfl) ⟨by decide, by decide⟩ (fun H4 locs4 hP4 hk4 hS4 => ?_)
  refine W.widen (k := 300) (n := 200000) (by decide) (by decide) ?_
  refine lv_astore_n (lv' := [(2, .ref (s.heap.size + 171)), (1, .ref s.heap.size), (0, .ref b)]) hx hb d_l15 rfl hl (by decide) rfl (fun ls hl => ?_)
  refine lv_iconst (v := zI ((0 : Nat) : Int)) hx hb d_l16 rfl ?_
  refine lv_istore_n (lv' := [(3, .int (zI ((0 : Nat) : Int))), (2, .ref (s.heap.size + 171)), (1, .ref s.heap.size), (0, .ref b)]) hx hb d_l17 rfl hl (by decide) rfl (fun ls hl => ?_)
  have hPC : va_P D vwCl (cW wC (enC s.heap.size f) dA iC) H4 := by
    rw [← dW_full fuA_C, lenC]
    refine hP2.kept (fun j x hx => ?_)
    have h1 := (hP2 j x hx).lt
    rw [hk4 x.1 (by omega) (by omega), ho3 x.1 (by omega)]
  have hPM : va_P D vwCl (cW wM (enM s.heap.size) dA iM) H4 := by
    rw [← dW_full fuA_M, lenM]
    exact hP4
  have hEC : qEx wC (enC s.heap.size f) s := ⟨hN, fun _ => hXc.narrow (fun q hq => by
    obtain ⟨k, h1, rfl⟩ := hq
    show s.heap.size ≤ enC s.heap.size f k
    rw [hadC k h1]; omega)⟩
  have hF : qLx p s m meth c b L xs D (enC s.heap.size f) (enM s.heap.size) dA := ⟨C0, hK, fun i j h1 h2 h3 => by rw [hadC i h1, hadC j h2] at h3; omega, fun i j h1 h2 h3 => by rw [hadM i h1, hadM j h2] at h3; omega, fun i j h1 h2 h3 => by rw [hadC i h1, hadM j h2] at h3; rw [lenC] at h1; omega, fun k h1 => by rw [hadC k h1]; omega, fun k h1 => by rw [hadM k h1]; omega, hEC, ⟨hN, fun z => by cases z⟩, hg⟩
  have hl4 : lv_has ls 4 (cL (adL (enC s.heap.size f) (enM s.heap.size) b) (lcs 0)) := by
    have e : cL (adL (enC s.heap.size f) (enM s.heap.size) b) (lcs 0) = [(3, .int (zI ((0 : Nat) : Int))), (0, .ref b), (1, .ref (enC s.heap.size f 0)), (2, .ref (enM s.heap.size 0))] := rfl
    rw [e, a0C, a0M]
    exact lv_sub hl [0, 3, 2, 1] rfl
  exact l_loop hL 513 0 0 iC iM (by omega) (by omega) (by omega) inv0 p l e s m below meth c b D (enC s.heap.size f) (enM s.heap.size) dA hF H4 locs4 ls hPC hPM hS4 hl4
