/-! the law's loop -/
theorem d_sw : decode code 33 = .ok (.tableswitch 1960 0 51 #[223, 276, 329, 372, 405, 428, 461, 504, 537, 580, 623, 656, 719, 752, 815, 838, 851, 864, 877, 890, 903, 936, 969, 1022, 1055, 1108, 1131, 1184, 1207, 1240, 1283, 1316, 1359, 1402, 1425, 1448, 1481, 1514, 1557, 1580, 1623, 1646, 1659, 1692, 1745, 1778, 1811, 1845, 1878, 1901, 1924, 1947], 223) := by decide +kernel
theorem l_loop {L : Nat} {xs : Nat → Int32} (hL : L ≤ 3072) : ∀ (d I c : Nat) (σ τ : qMem), L < I + 6 * d + 6 → 6 * c ≤ I → I ≤ 3100 → Inv LWd c σ τ → qL L xs 18 (lcs I) [] σ τ := by
  have k18 : decode code 18 = .ok (.iload_n 3, 1) := by decide +kernel
  have k19 : decode code 19 = .ok (.aload_n 0, 1) := by decide +kernel
  have k20 : decode code 20 = .ok (.arraylength, 1) := by decide +kernel
  have k21 : decode code 21 = .ok (.bipush 6, 2) := by decide +kernel
  have k23 : decode code 23 = .ok (.isub, 1) := by decide +kernel
  have k24 : decode code 24 = .ok (.if_icmp .gt 1975, 3) := by decide +kernel
  have k27 : decode code 27 = .ok (.aload_n 0, 1) := by decide +kernel
  have k28 : decode code 28 = .ok (.iload_n 3, 1) := by decide +kernel
  have k29 : decode code 29 = .ok (.iaload, 1) := by decide +kernel
  have k30 : decode code 30 = .ok (.bipush 63, 2) := by decide +kernel
  have k32 : decode code 32 = .ok (.iand, 1) := by decide +kernel
  have k93 : decode code 1993 = .ok (.iinc 3 6, 3) := by decide +kernel
  have k96 : decode code 1996 = .ok (.goto (-1978), 3) := by decide +kernel
  have k99 : decode code 1999 = .ok (.iconst 1, 1) := by decide +kernel
  have k00 : decode code 2000 = .ok (.ireturn, 1) := by decide +kernel
  intro d
  induction d with
  | zero =>
    intro I c σ τ hd hc hI h
    refine l_iload_n (i := 3) (x := zI I) k18 rfl 0 rfl ?_
    refine l_aload_n (i := 0) (x := 2) k19 rfl 1 rfl ?_
    refine l_slen k20 ?_
    refine l_bipush (v := 6) k21 (by decide) ?_
    refine l_isub k23 ?_
    have e : Int32.ofNat L - 6 = zI ((L : Int) - 6) := by rw [show Int32.ofNat L = zI (L : Int) from rfl, show (6 : Int32) = zI 6 from rfl, zI_sub]
    rw [e]
    refine l_gt (tgt := 1999) k24 (by decide) (fun _ => l_end k99 (by decide) rfl k00) (fun z => ?_)
    rw [zI_lt (by omega) (by omega) (by omega) (by omega)] at z
    omega
  | succ d ih =>
    intro I c σ τ hd hc hI h
    refine l_iload_n (i := 3) (x := zI I) k18 rfl 0 rfl ?_
    refine l_aload_n (i := 0) (x := 2) k19 rfl 1 rfl ?_
    refine l_slen k20 ?_
    refine l_bipush (v := 6) k21 (by decide) ?_
    refine l_isub k23 ?_
    have e : Int32.ofNat L - 6 = zI ((L : Int) - 6) := by rw [show Int32.ofNat L = zI (L : Int) from rfl, show (6 : Int32) = zI 6 from rfl, zI_sub]
    rw [e]
    refine l_gt (tgt := 1999) k24 (by decide) (fun _ => l_end k99 (by decide) rfl k00) (fun z => ?_)
    rw [zI_lt (by omega) (by omega) (by omega) (by omega)] at z
    have hI6 : I + 6 ≤ L := by omega
    have hc6 : c ≤ 600 := by omega
    have kk : ∀ σ' τ', Inv LWd (c + 1) σ' τ' → qL L xs 1993 (lcs I) [] σ' τ' := fun σ' τ' h' => by
      refine l_iinc (x := zI I) (v := zI ((I + 6 : Nat) : Int)) (L' := lcs (I + 6)) k93 0 rfl ?_ (by decide) rfl ?_
      · rw [show Int32.ofInt 6 = zI 6 from rfl, zI_add]; rfl
      · refine l_goto (tgt := 18) k96 (by decide) ?_
        exact ih (I + 6) (c + 1) σ' τ' (by omega) (by omega) (by omega) h'
    refine l_aload_n (i := 0) (x := 2) k27 rfl 1 rfl ?_
    refine l_iload_n (i := 3) (x := zI I) k28 rfl 0 rfl ?_
    have kin : ck (zI (I : Int)) L = true := of_eq_true (zI_ckT (by omega) (by omega) (by omega))
    refine l_sld (i := zI I) k29 (ck_in kin) ?_
    refine l_bipush (v := 63) k30 (by decide) ?_
    refine l_iand k32 ?_
    generalize xs (zI (I : Int)).toNatClampNeg &&& 63 = x
    by_cases hx : x.toInt < 0 ∨ 51 < x.toInt
    · exact l_tout (tgt := 1993) d_sw hx (by decide) (kk σ τ (Inv_up h))
    · obtain ⟨k, hk, ex⟩ : ∃ k : Nat, k < 52 ∧ x.toInt = (k : Int) := ⟨x.toInt.toNat, by omega, by omega⟩
      have h1 : ¬ x.toInt < 0 := by omega
      have h2 : ¬ 51 < x.toInt := by omega
      match k, hk, ex with
      | 0, _, ex => exact l_tin (off := 223) (tgt := 256) d_sw h1 h2 (by rw [ex]; rfl) (by decide) (lc_0 hI6 hL hc6 h kk)
      | 1, _, ex => exact l_tin (off := 276) (tgt := 309) d_sw h1 h2 (by rw [ex]; rfl) (by decide) (lc_1 hI6 hL hc6 h kk)
      | 2, _, ex => exact l_tin (off := 329) (tgt := 362) d_sw h1 h2 (by rw [ex]; rfl) (by decide) (lc_2 hI6 hL hc6 h kk)
      | 3, _, ex => exact l_tin (off := 372) (tgt := 405) d_sw h1 h2 (by rw [ex]; rfl) (by decide) (lc_3 hI6 hL hc6 h kk)
      | 4, _, ex => exact l_tin (off := 405) (tgt := 438) d_sw h1 h2 (by rw [ex]; rfl) (by decide) (lc_4 hI6 hL hc6 h kk)
      | 5, _, ex => exact l_tin (off := 428) (tgt := 461) d_sw h1 h2 (by rw [ex]; rfl) (by decide) (lc_5 hI6 hL hc6 h kk)
      | 6, _, ex => exact l_tin (off := 461) (tgt := 494) d_sw h1 h2 (by rw [ex]; rfl) (by decide) (lc_6 hI6 hL hc6 h kk)
      | 7, _, ex => exact l_tin (off := 504) (tgt := 537) d_sw h1 h2 (by rw [ex]; rfl) (by decide) (lc_7 hI6 hL hc6 h kk)
      | 8, _, ex => exact l_tin (off := 537) (tgt := 570) d_sw h1 h2 (by rw [ex]; rfl) (by decide) (lc_8 hI6 hL hc6 h kk)
      | 9, _, ex => exact l_tin (off := 580) (tgt := 613) d_sw h1 h2 (by rw [ex]; rfl) (by decide) (lc_9 hI6 hL hc6 h kk)
      | 10, _, ex => exact l_tin (off := 623) (tgt := 656) d_sw h1 h2 (by rw [ex]; rfl) (by decide) (lc_10 hI6 hL hc6 h kk)
      | 11, _, ex => exact l_tin (off := 656) (tgt := 689) d_sw h1 h2 (by rw [ex]; rfl) (by decide) (lc_11 hI6 hL hc6 h kk)
      | 12, _, ex => exact l_tin (off := 719) (tgt := 752) d_sw h1 h2 (by rw [ex]; rfl) (by decide) (lc_12 hI6 hL hc6 h kk)
      | 13, _, ex => exact l_tin (off := 752) (tgt := 785) d_sw h1 h2 (by rw [ex]; rfl) (by decide) (lc_13 hI6 hL hc6 h kk)
      | 14, _, ex => exact l_tin (off := 815) (tgt := 848) d_sw h1 h2 (by rw [ex]; rfl) (by decide) (lc_14 hI6 hL hc6 h kk)
      | 15, _, ex => exact l_tin (off := 838) (tgt := 871) d_sw h1 h2 (by rw [ex]; rfl) (by decide) (lc_15 hI6 hL hc6 h kk)
      | 16, _, ex => exact l_tin (off := 851) (tgt := 884) d_sw h1 h2 (by rw [ex]; rfl) (by decide) (lc_16 hI6 hL hc6 h kk)
      | 17, _, ex => exact l_tin (off := 864) (tgt := 897) d_sw h1 h2 (by rw [ex]; rfl) (by decide) (lc_17 hI6 hL hc6 h kk)
      | 18, _, ex => exact l_tin (off := 877) (tgt := 910) d_sw h1 h2 (by rw [ex]; rfl) (by decide) (lc_18 hI6 hL hc6 h kk)
      | 19, _, ex => exact l_tin (off := 890) (tgt := 923) d_sw h1 h2 (by rw [ex]; rfl) (by decide) (lc_19 hI6 hL hc6 h kk)
      | 20, _, ex => exact l_tin (off := 903) (tgt := 936) d_sw h1 h2 (by rw [ex]; rfl) (by decide) (lc_20 hI6 hL hc6 h kk)
      | 21, _, ex => exact l_tin (off := 936) (tgt := 969) d_sw h1 h2 (by rw [ex]; rfl) (by decide) (lc_21 hI6 hL hc6 h kk)
      | 22, _, ex => exact l_tin (off := 969) (tgt := 1002) d_sw h1 h2 (by rw [ex]; rfl) (by decide) (lc_22 hI6 hL hc6 h kk)
      | 23, _, ex => exact l_tin (off := 1022) (tgt := 1055) d_sw h1 h2 (by rw [ex]; rfl) (by decide) (lc_23 hI6 hL hc6 h kk)
      | 24, _, ex => exact l_tin (off := 1055) (tgt := 1088) d_sw h1 h2 (by rw [ex]; rfl) (by decide) (lc_24 hI6 hL hc6 h kk)
      | 25, _, ex => exact l_tin (off := 1108) (tgt := 1141) d_sw h1 h2 (by rw [ex]; rfl) (by decide) (lc_25 hI6 hL hc6 h kk)
      | 26, _, ex => exact l_tin (off := 1131) (tgt := 1164) d_sw h1 h2 (by rw [ex]; rfl) (by decide) (lc_26 hI6 hL hc6 h kk)
      | 27, _, ex => exact l_tin (off := 1184) (tgt := 1217) d_sw h1 h2 (by rw [ex]; rfl) (by decide) (lc_27 hI6 hL hc6 h kk)
      | 28, _, ex => exact l_tin (off := 1207) (tgt := 1240) d_sw h1 h2 (by rw [ex]; rfl) (by decide) (lc_28 hI6 hL hc6 h kk)
      | 29, _, ex => exact l_tin (off := 1240) (tgt := 1273) d_sw h1 h2 (by rw [ex]; rfl) (by decide) (lc_29 hI6 hL hc6 h kk)
      | 30, _, ex => exact l_tin (off := 1283) (tgt := 1316) d_sw h1 h2 (by rw [ex]; rfl) (by decide) (lc_30 hI6 hL hc6 h kk)
      | 31, _, ex => exact l_tin (off := 1316) (tgt := 1349) d_sw h1 h2 (by rw [ex]; rfl) (by decide) (lc_31 hI6 hL hc6 h kk)
      | 32, _, ex => exact l_tin (off := 1359) (tgt := 1392) d_sw h1 h2 (by rw [ex]; rfl) (by decide) (lc_32 hI6 hL hc6 h kk)
      | 33, _, ex => exact l_tin (off := 1402) (tgt := 1435) d_sw h1 h2 (by rw [ex]; rfl) (by decide) (lc_33 hI6 hL hc6 h kk)
      | 34, _, ex => exact l_tin (off := 1425) (tgt := 1458) d_sw h1 h2 (by rw [ex]; rfl) (by decide) (lc_34 hI6 hL hc6 h kk)
      | 35, _, ex => exact l_tin (off := 1448) (tgt := 1481) d_sw h1 h2 (by rw [ex]; rfl) (by decide) (lc_35 hI6 hL hc6 h kk)
      | 36, _, ex => exact l_tin (off := 1481) (tgt := 1514) d_sw h1 h2 (by rw [ex]; rfl) (by decide) (lc_36 hI6 hL hc6 h kk)
      | 37, _, ex => exact l_tin (off := 1514) (tgt := 1547) d_sw h1 h2 (by rw [ex]; rfl) (by decide) (lc_37 hI6 hL hc6 h kk)
      | 38, _, ex => exact l_tin (off := 1557) (tgt := 1590) d_sw h1 h2 (by rw [ex]; rfl) (by decide) (lc_38 hI6 hL hc6 h kk)
      | 39, _, ex => exact l_tin (off := 1580) (tgt := 1613) d_sw h1 h2 (by rw [ex]; rfl) (by decide) (lc_39 hI6 hL hc6 h kk)
      | 40, _, ex => exact l_tin (off := 1623) (tgt := 1656) d_sw h1 h2 (by rw [ex]; rfl) (by decide) (lc_40 hI6 hL hc6 h kk)
      | 41, _, ex => exact l_tin (off := 1646) (tgt := 1679) d_sw h1 h2 (by rw [ex]; rfl) (by decide) (lc_41 hI6 hL hc6 h kk)
      | 42, _, ex => exact l_tin (off := 1659) (tgt := 1692) d_sw h1 h2 (by rw [ex]; rfl) (by decide) (lc_42 hI6 hL hc6 h kk)
      | 43, _, ex => exact l_tin (off := 1692) (tgt := 1725) d_sw h1 h2 (by rw [ex]; rfl) (by decide) (lc_43 hI6 hL hc6 h kk)
      | 44, _, ex => exact l_tin (off := 1745) (tgt := 1778) d_sw h1 h2 (by rw [ex]; rfl) (by decide) (lc_44 hI6 hL hc6 h kk)
      | 45, _, ex => exact l_tin (off := 1778) (tgt := 1811) d_sw h1 h2 (by rw [ex]; rfl) (by decide) (lc_45 hI6 hL hc6 h kk)
      | 46, _, ex => exact l_tin (off := 1811) (tgt := 1844) d_sw h1 h2 (by rw [ex]; rfl) (by decide) (lc_46 hI6 hL hc6 h kk)
      | 47, _, ex => exact l_tin (off := 1845) (tgt := 1878) d_sw h1 h2 (by rw [ex]; rfl) (by decide) (lc_47 hI6 hL hc6 h kk)
      | 48, _, ex => exact l_tin (off := 1878) (tgt := 1911) d_sw h1 h2 (by rw [ex]; rfl) (by decide) (lc_48 hI6 hL hc6 h kk)
      | 49, _, ex => exact l_tin (off := 1901) (tgt := 1934) d_sw h1 h2 (by rw [ex]; rfl) (by decide) (lc_49 hI6 hL hc6 h kk)
      | 50, _, ex => exact l_tin (off := 1924) (tgt := 1957) d_sw h1 h2 (by rw [ex]; rfl) (by decide) (lc_50 hI6 hL hc6 h kk)
      | 51, _, ex => exact l_tin (off := 1947) (tgt := 1980) d_sw h1 h2 (by rw [ex]; rfl) (by decide) (lc_51 hI6 hL hc6 h kk)
      | n + 52, hk, _ => exact absurd hk (by omega)
