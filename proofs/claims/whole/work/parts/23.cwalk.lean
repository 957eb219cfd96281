set_option maxRecDepth 20000 in
set_option maxHeartbeats 4000000 in
def fnJ7_fill_53178 (k0 : Nat) (p1 : Int32) (σ : qMem) : Option qMem :=
  (nmM (si σ k0 (0 : Int32).toNatClampNeg p1) fun s1 => (nmM (si s1 k0 (1 : Int32).toNatClampNeg p1) fun s2 => (nmM (si s2 k0 (2 : Int32).toNatClampNeg p1) fun s3 => (nmM (si s3 k0 (3 : Int32).toNatClampNeg p1) fun s4 => (nmM (si s4 k0 (4 : Int32).toNatClampNeg p1) fun s5 => (nmM (si s5 k0 (5 : Int32).toNatClampNeg p1) fun s6 => (nmM (si s6 k0 (6 : Int32).toNatClampNeg p1) fun s7 => (nmM (si s7 k0 (7 : Int32).toNatClampNeg p1) fun s8 => (nmM (si s8 k0 (8 : Int32).toNatClampNeg p1) fun s9 => (nmM (si s9 k0 (9 : Int32).toNatClampNeg p1) fun s10 => (nmM (si s10 k0 (10 : Int32).toNatClampNeg p1) fun s11 => (nmM (si s11 k0 (11 : Int32).toNatClampNeg p1) fun s12 => (nmM (si s12 k0 (12 : Int32).toNatClampNeg p1) fun s13 => (nmM (si s13 k0 (13 : Int32).toNatClampNeg p1) fun s14 => (nmM (si s14 k0 (14 : Int32).toNatClampNeg p1) fun s15 => (nmM (si s15 k0 (15 : Int32).toNatClampNeg p1) fun s16 => (nmM (si s16 k0 (16 : Int32).toNatClampNeg p1) fun s17 => (nmM (si s17 k0 (17 : Int32).toNatClampNeg p1) fun s18 => (nmM (si s18 k0 (18 : Int32).toNatClampNeg p1) fun s19 => (nmM (si s19 k0 (19 : Int32).toNatClampNeg p1) fun s20 => (nmM (si s20 k0 (20 : Int32).toNatClampNeg p1) fun s21 => (nmM (si s21 k0 (21 : Int32).toNatClampNeg p1) fun s22 => (nmM (si s22 k0 (22 : Int32).toNatClampNeg p1) fun s23 => (nmM (si s23 k0 (23 : Int32).toNatClampNeg p1) fun s24 => (nmM (si s24 k0 (24 : Int32).toNatClampNeg p1) fun s25 => (nmM (si s25 k0 (25 : Int32).toNatClampNeg p1) fun s26 => (nmM (si s26 k0 (26 : Int32).toNatClampNeg p1) fun s27 => (nmM (si s27 k0 (27 : Int32).toNatClampNeg p1) fun s28 => (nmM (si s28 k0 (28 : Int32).toNatClampNeg p1) fun s29 => (nmM (si s29 k0 (29 : Int32).toNatClampNeg p1) fun s30 => (some s30)))))))))))))))))))))))))))))))
set_option maxRecDepth 20000 in
set_option maxHeartbeats 4000000 in
theorem anJ7_fill_53178 (k0 n0 : Nat) (p1 : Int32) (hkn : k0 < n0) (hk : wC.1[k0]? = some (.inl (.int, 30, []))) (σ : qMem) : qAn wC mJ7_fill_53178 0 [(0, .ref k0), (1, .int p1)] [] n0 σ 0 0 n0 0 0 (fnJ7_fill_53178 k0 p1 σ) := by
  unfold fnJ7_fill_53178
  refine n_iconst (v := 0) dJ7_fill_53178_0 (by decide) ?_
  refine n_istore_n (i := 2) (L' := [(2, .int 0), (0, .ref k0), (1, .int p1)]) dJ7_fill_53178_1 rfl (Nat.le_of_ble_eq_true rfl) rfl ?_
  refine n_aload_n (i := 0) (x := k0) dJ7_fill_53178_2 rfl 1 rfl ?_
  refine n_alen (t0 := 0) (v := 30) dJ7_fill_53178_3 hkn hk (fun _ => rfl) (by decide) ?_
  refine n_istore_n (i := 3) (L' := [(3, .int 30), (2, .int 0), (0, .ref k0), (1, .int p1)]) dJ7_fill_53178_4 rfl (Nat.le_of_ble_eq_true rfl) rfl ?_
  refine n_iload_n (i := 2) (x := 0) dJ7_fill_53178_5 rfl 1 rfl ?_
  refine n_iload_n (i := 3) (x := 30) dJ7_fill_53178_6 rfl 0 rfl ?_
  refine n_ge_f (x := 0) (y := 30) (tgt := 20) dJ7_fill_53178_7 (by decide) (by decide) ?_
  refine n_aload_n (i := 0) (x := k0) dJ7_fill_53178_10 rfl 2 rfl ?_
  refine n_iload_n (i := 2) (x := 0) dJ7_fill_53178_11 rfl 1 rfl ?_
  refine n_iload_n (i := 1) (x := p1) dJ7_fill_53178_12 rfl 3 rfl ?_
  refine n_iast dJ7_fill_53178_13 hkn hk (by decide) ?_
  refine q_nmN (fun s1 => ?_)
  refine n_iinc (i := 2) (x := 0) (v := 1) (L' := [(2, .int 1), (3, .int 30), (0, .ref k0), (1, .int p1)]) dJ7_fill_53178_14 1 rfl (by decide) (Nat.le_of_ble_eq_true rfl) rfl ?_
  refine n_goto (tgt := 5) dJ7_fill_53178_17 (by decide) ?_
  refine n_iload_n (i := 2) (x := 1) dJ7_fill_53178_5 rfl 0 rfl ?_
  refine n_iload_n (i := 3) (x := 30) dJ7_fill_53178_6 rfl 1 rfl ?_
  refine n_ge_f (x := 1) (y := 30) (tgt := 20) dJ7_fill_53178_7 (by decide) (by decide) ?_
  refine n_aload_n (i := 0) (x := k0) dJ7_fill_53178_10 rfl 2 rfl ?_
  refine n_iload_n (i := 2) (x := 1) dJ7_fill_53178_11 rfl 0 rfl ?_
  refine n_iload_n (i := 1) (x := p1) dJ7_fill_53178_12 rfl 3 rfl ?_
  refine n_iast dJ7_fill_53178_13 hkn hk (by decide) ?_
  refine q_nmN (fun s2 => ?_)
  refine n_iinc (i := 2) (x := 1) (v := 2) (L' := [(2, .int 2), (3, .int 30), (0, .ref k0), (1, .int p1)]) dJ7_fill_53178_14 0 rfl (by decide) (Nat.le_of_ble_eq_true rfl) rfl ?_
  refine n_goto (tgt := 5) dJ7_fill_53178_17 (by decide) ?_
  refine n_iload_n (i := 2) (x := 2) dJ7_fill_53178_5 rfl 0 rfl ?_
  refine n_iload_n (i := 3) (x := 30) dJ7_fill_53178_6 rfl 1 rfl ?_
  refine n_ge_f (x := 2) (y := 30) (tgt := 20) dJ7_fill_53178_7 (by decide) (by decide) ?_
  refine n_aload_n (i := 0) (x := k0) dJ7_fill_53178_10 rfl 2 rfl ?_
  refine n_iload_n (i := 2) (x := 2) dJ7_fill_53178_11 rfl 0 rfl ?_
  refine n_iload_n (i := 1) (x := p1) dJ7_fill_53178_12 rfl 3 rfl ?_
  refine n_iast dJ7_fill_53178_13 hkn hk (by decide) ?_
  refine q_nmN (fun s3 => ?_)
  refine n_iinc (i := 2) (x := 2) (v := 3) (L' := [(2, .int 3), (3, .int 30), (0, .ref k0), (1, .int p1)]) dJ7_fill_53178_14 0 rfl (by decide) (Nat.le_of_ble_eq_true rfl) rfl ?_
  refine n_goto (tgt := 5) dJ7_fill_53178_17 (by decide) ?_
  refine n_iload_n (i := 2) (x := 3) dJ7_fill_53178_5 rfl 0 rfl ?_
  refine n_iload_n (i := 3) (x := 30) dJ7_fill_53178_6 rfl 1 rfl ?_
  refine n_ge_f (x := 3) (y := 30) (tgt := 20) dJ7_fill_53178_7 (by decide) (by decide) ?_
  refine n_aload_n (i := 0) (x := k0) dJ7_fill_53178_10 rfl 2 rfl ?_
  refine n_iload_n (i := 2) (x := 3) dJ7_fill_53178_11 rfl 0 rfl ?_
  refine n_iload_n (i := 1) (x := p1) dJ7_fill_53178_12 rfl 3 rfl ?_
  refine n_iast dJ7_fill_53178_13 hkn hk (by decide) ?_
  refine q_nmN (fun s4 => ?_)
  refine n_iinc (i := 2) (x := 3) (v := 4) (L' := [(2, .int 4), (3, .int 30), (0, .ref k0), (1, .int p1)]) dJ7_fill_53178_14 0 rfl (by decide) (Nat.le_of_ble_eq_true rfl) rfl ?_
  refine n_goto (tgt := 5) dJ7_fill_53178_17 (by decide) ?_
  refine n_iload_n (i := 2) (x := 4) dJ7_fill_53178_5 rfl 0 rfl ?_
  refine n_iload_n (i := 3) (x := 30) dJ7_fill_53178_6 rfl 1 rfl ?_
  refine n_ge_f (x := 4) (y := 30) (tgt := 20) dJ7_fill_53178_7 (by decide) (by decide) ?_
  refine n_aload_n (i := 0) (x := k0) dJ7_fill_53178_10 rfl 2 rfl ?_
  refine n_iload_n (i := 2) (x := 4) dJ7_fill_53178_11 rfl 0 rfl ?_
  refine n_iload_n (i := 1) (x := p1) dJ7_fill_53178_12 rfl 3 rfl ?_
  refine n_iast dJ7_fill_53178_13 hkn hk (by decide) ?_
  refine q_nmN (fun s5 => ?_)
  refine n_iinc (i := 2) (x := 4) (v := 5) (L' := [(2, .int 5), (3, .int 30), (0, .ref k0), (1, .int p1)]) dJ7_fill_53178_14 0 rfl (by decide) (Nat.le_of_ble_eq_true rfl) rfl ?_
  refine n_goto (tgt := 5) dJ7_fill_53178_17 (by decide) ?_
  refine n_iload_n (i := 2) (x := 5) dJ7_fill_53178_5 rfl 0 rfl ?_
  refine n_iload_n (i := 3) (x := 30) dJ7_fill_53178_6 rfl 1 rfl ?_
  refine n_ge_f (x := 5) (y := 30) (tgt := 20) dJ7_fill_53178_7 (by decide) (by decide) ?_
  refine n_aload_n (i := 0) (x := k0) dJ7_fill_53178_10 rfl 2 rfl ?_
  refine n_iload_n (i := 2) (x := 5) dJ7_fill_53178_11 rfl 0 rfl ?_
  refine n_iload_n (i := 1) (x := p1) dJ7_fill_53178_12 rfl 3 rfl ?_
  refine n_iast dJ7_fill_53178_13 hkn hk (by decide) ?_
  refine q_nmN (fun s6 => ?_)
  refine n_iinc (i := 2) (x := 5) (v := 6) (L' := [(2, .int 6), (3, .int 30), (0, .ref k0), (1, .int p1)]) dJ7_fill_53178_14 0 rfl (by decide) (Nat.le_of_ble_eq_true rfl) rfl ?_
  refine n_goto (tgt := 5) dJ7_fill_53178_17 (by decide) ?_
  refine n_iload_n (i := 2) (x := 6) dJ7_fill_53178_5 rfl 0 rfl ?_
  refine n_iload_n (i := 3) (x := 30) dJ7_fill_53178_6 rfl 1 rfl ?_
  refine n_ge_f (x := 6) (y := 30) (tgt := 20) dJ7_fill_53178_7 (by decide) (by decide) ?_
  refine n_aload_n (i := 0) (x := k0) dJ7_fill_53178_10 rfl 2 rfl ?_
  refine n_iload_n (i := 2) (x := 6) dJ7_fill_53178_11 rfl 0 rfl ?_
  refine n_iload_n (i := 1) (x := p1) dJ7_fill_53178_12 rfl 3 rfl ?_
  refine n_iast dJ7_fill_53178_13 hkn hk (by decide) ?_
  refine q_nmN (fun s7 => ?_)
  refine n_iinc (i := 2) (x := 6) (v := 7) (L' := [(2, .int 7), (3, .int 30), (0, .ref k0), (1, .int p1)]) dJ7_fill_53178_14 0 rfl (by decide) (Nat.le_of_ble_eq_true rfl) rfl ?_
  refine n_goto (tgt := 5) dJ7_fill_53178_17 (by decide) ?_
  refine n_iload_n (i := 2) (x := 7) dJ7_fill_53178_5 rfl 0 rfl ?_
  refine n_iload_n (i := 3) (x := 30) dJ7_fill_53178_6 rfl 1 rfl ?_
  refine n_ge_f (x := 7) (y := 30) (tgt := 20) dJ7_fill_53178_7 (by decide) (by decide) ?_
  refine n_aload_n (i := 0) (x := k0) dJ7_fill_53178_10 rfl 2 rfl ?_
  refine n_iload_n (i := 2) (x := 7) dJ7_fill_53178_11 rfl 0 rfl ?_
  refine n_iload_n (i := 1) (x := p1) dJ7_fill_53178_12 rfl 3 rfl ?_
  refine n_iast dJ7_fill_53178_13 hkn hk (by decide) ?_
  refine q_nmN (fun s8 => ?_)
  refine n_iinc (i := 2) (x := 7) (v := 8) (L' := [(2, .int 8), (3, .int 30), (0, .ref k0), (1, .int p1)]) dJ7_fill_53178_14 0 rfl (by decide) (Nat.le_of_ble_eq_true rfl) rfl ?_
  refine n_goto (tgt := 5) dJ7_fill_53178_17 (by decide) ?_
  refine n_iload_n (i := 2) (x := 8) dJ7_fill_53178_5 rfl 0 rfl ?_
  refine n_iload_n (i := 3) (x := 30) dJ7_fill_53178_6 rfl 1 rfl ?_
  refine n_ge_f (x := 8) (y := 30) (tgt := 20) dJ7_fill_53178_7 (by decide) (by decide) ?_
  refine n_aload_n (i := 0) (x := k0) dJ7_fill_53178_10 rfl 2 rfl ?_
  refine n_iload_n (i := 2) (x := 8) dJ7_fill_53178_11 rfl 0 rfl ?_
  refine n_iload_n (i := 1) (x := p1) dJ7_fill_53178_12 rfl 3 rfl ?_
  refine n_iast dJ7_fill_53178_13 hkn hk (by decide) ?_
  refine q_nmN (fun s9 => ?_)
  refine n_iinc (i := 2) (x := 8) (v := 9) (L' := [(2, .int 9), (3, .int 30), (0, .ref k0), (1, .int p1)]) dJ7_fill_53178_14 0 rfl (by decide) (Nat.le_of_ble_eq_true rfl) rfl ?_
  refine n_goto (tgt := 5) dJ7_fill_53178_17 (by decide) ?_
  refine n_iload_n (i := 2) (x := 9) dJ7_fill_53178_5 rfl 0 rfl ?_
  refine n_iload_n (i := 3) (x := 30) dJ7_fill_53178_6 rfl 1 rfl ?_
  refine n_ge_f (x := 9) (y := 30) (tgt := 20) dJ7_fill_53178_7 (by decide) (by decide) ?_
  refine n_aload_n (i := 0) (x := k0) dJ7_fill_53178_10 rfl 2 rfl ?_
  refine n_iload_n (i := 2) (x := 9) dJ7_fill_53178_11 rfl 0 rfl ?_
  refine n_iload_n (i := 1) (x := p1) dJ7_fill_53178_12 rfl 3 rfl ?_
  refine n_iast dJ7_fill_53178_13 hkn hk (by decide) ?_
  refine q_nmN (fun s10 => ?_)
  refine n_iinc (i := 2) (x := 9) (v := 10) (L' := [(2, .int 10), (3, .int 30), (0, .ref k0), (1, .int p1)]) dJ7_fill_53178_14 0 rfl (by decide) (Nat.le_of_ble_eq_true rfl) rfl ?_
  refine n_goto (tgt := 5) dJ7_fill_53178_17 (by decide) ?_
  refine n_iload_n (i := 2) (x := 10) dJ7_fill_53178_5 rfl 0 rfl ?_
  refine n_iload_n (i := 3) (x := 30) dJ7_fill_53178_6 rfl 1 rfl ?_
  refine n_ge_f (x := 10) (y := 30) (tgt := 20) dJ7_fill_53178_7 (by decide) (by decide) ?_
  refine n_aload_n (i := 0) (x := k0) dJ7_fill_53178_10 rfl 2 rfl ?_
  refine n_iload_n (i := 2) (x := 10) dJ7_fill_53178_11 rfl 0 rfl ?_
  refine n_iload_n (i := 1) (x := p1) dJ7_fill_53178_12 rfl 3 rfl ?_
  refine n_iast dJ7_fill_53178_13 hkn hk (by decide) ?_
  refine q_nmN (fun s11 => ?_)
  refine n_iinc (i := 2) (x := 10) (v := 11) (L' := [(2, .int 11), (3, .int 30), (0, .ref k0), (1, .int p1)]) dJ7_fill_53178_14 0 rfl (by decide) (Nat.le_of_ble_eq_true rfl) rfl ?_
  refine n_goto (tgt := 5) dJ7_fill_53178_17 (by decide) ?_
  refine n_iload_n (i := 2) (x := 11) dJ7_fill_53178_5 rfl 0 rfl ?_
  refine n_iload_n (i := 3) (x := 30) dJ7_fill_53178_6 rfl 1 rfl ?_
  refine n_ge_f (x := 11) (y := 30) (tgt := 20) dJ7_fill_53178_7 (by decide) (by decide) ?_
  refine n_aload_n (i := 0) (x := k0) dJ7_fill_53178_10 rfl 2 rfl ?_
  refine n_iload_n (i := 2) (x := 11) dJ7_fill_53178_11 rfl 0 rfl ?_
  refine n_iload_n (i := 1) (x := p1) dJ7_fill_53178_12 rfl 3 rfl ?_
  refine n_iast dJ7_fill_53178_13 hkn hk (by decide) ?_
  refine q_nmN (fun s12 => ?_)
  refine n_iinc (i := 2) (x := 11) (v := 12) (L' := [(2, .int 12), (3, .int 30), (0, .ref k0), (1, .int p1)]) dJ7_fill_53178_14 0 rfl (by decide) (Nat.le_of_ble_eq_true rfl) rfl ?_
  refine n_goto (tgt := 5) dJ7_fill_53178_17 (by decide) ?_
  refine n_iload_n (i := 2) (x := 12) dJ7_fill_53178_5 rfl 0 rfl ?_
  refine n_iload_n (i := 3) (x := 30) dJ7_fill_53178_6 rfl 1 rfl ?_
  refine n_ge_f (x := 12) (y := 30) (tgt := 20) dJ7_fill_53178_7 (by decide) (by decide) ?_
  refine n_aload_n (i := 0) (x := k0) dJ7_fill_53178_10 rfl 2 rfl ?_
  refine n_iload_n (i := 2) (x := 12) dJ7_fill_53178_11 rfl 0 rfl ?_
  refine n_iload_n (i := 1) (x := p1) dJ7_fill_53178_12 rfl 3 rfl ?_
  refine n_iast dJ7_fill_53178_13 hkn hk (by decide) ?_
  refine q_nmN (fun s13 => ?_)
  refine n_iinc (i := 2) (x := 12) (v := 13) (L' := [(2, .int 13), (3, .int 30), (0, .ref k0), (1, .int p1)]) dJ7_fill_53178_14 0 rfl (by decide) (Nat.le_of_ble_eq_true rfl) rfl ?_
  refine n_goto (tgt := 5) dJ7_fill_53178_17 (by decide) ?_
  refine n_iload_n (i := 2) (x := 13) dJ7_fill_53178_5 rfl 0 rfl ?_
  refine n_iload_n (i := 3) (x := 30) dJ7_fill_53178_6 rfl 1 rfl ?_
  refine n_ge_f (x := 13) (y := 30) (tgt := 20) dJ7_fill_53178_7 (by decide) (by decide) ?_
  refine n_aload_n (i := 0) (x := k0) dJ7_fill_53178_10 rfl 2 rfl ?_
  refine n_iload_n (i := 2) (x := 13) dJ7_fill_53178_11 rfl 0 rfl ?_
  refine n_iload_n (i := 1) (x := p1) dJ7_fill_53178_12 rfl 3 rfl ?_
  refine n_iast dJ7_fill_53178_13 hkn hk (by decide) ?_
  refine q_nmN (fun s14 => ?_)
  refine n_iinc (i := 2) (x := 13) (v := 14) (L' := [(2, .int 14), (3, .int 30), (0, .ref k0), (1, .int p1)]) dJ7_fill_53178_14 0 rfl (by decide) (Nat.le_of_ble_eq_true rfl) rfl ?_
  refine n_goto (tgt := 5) dJ7_fill_53178_17 (by decide) ?_
  refine n_iload_n (i := 2) (x := 14) dJ7_fill_53178_5 rfl 0 rfl ?_
  refine n_iload_n (i := 3) (x := 30) dJ7_fill_53178_6 rfl 1 rfl ?_
  refine n_ge_f (x := 14) (y := 30) (tgt := 20) dJ7_fill_53178_7 (by decide) (by decide) ?_
  refine n_aload_n (i := 0) (x := k0) dJ7_fill_53178_10 rfl 2 rfl ?_
  refine n_iload_n (i := 2) (x := 14) dJ7_fill_53178_11 rfl 0 rfl ?_
  refine n_iload_n (i := 1) (x := p1) dJ7_fill_53178_12 rfl 3 rfl ?_
  refine n_iast dJ7_fill_53178_13 hkn hk (by decide) ?_
  refine q_nmN (fun s15 => ?_)
  refine n_iinc (i := 2) (x := 14) (v := 15) (L' := [(2, .int 15), (3, .int 30), (0, .ref k0), (1, .int p1)]) dJ7_fill_53178_14 0 rfl (by decide) (Nat.le_of_ble_eq_true rfl) rfl ?_
  refine n_goto (tgt := 5) dJ7_fill_53178_17 (by decide) ?_
  refine n_iload_n (i := 2) (x := 15) dJ7_fill_53178_5 rfl 0 rfl ?_
  refine n_iload_n (i := 3) (x := 30) dJ7_fill_53178_6 rfl 1 rfl ?_
  refine n_ge_f (x := 15) (y := 30) (tgt := 20) dJ7_fill_53178_7 (by decide) (by decide) ?_
  refine n_aload_n (i := 0) (x := k0) dJ7_fill_53178_10 rfl 2 rfl ?_
  refine n_iload_n (i := 2) (x := 15) dJ7_fill_53178_11 rfl 0 rfl ?_
  refine n_iload_n (i := 1) (x := p1) dJ7_fill_53178_12 rfl 3 rfl ?_
  refine n_iast dJ7_fill_53178_13 hkn hk (by decide) ?_
  refine q_nmN (fun s16 => ?_)
  refine n_iinc (i := 2) (x := 15) (v := 16) (L' := [(2, .int 16), (3, .int 30), (0, .ref k0), (1, .int p1)]) dJ7_fill_53178_14 0 rfl (by decide) (Nat.le_of_ble_eq_true rfl) rfl ?_
  refine n_goto (tgt := 5) dJ7_fill_53178_17 (by decide) ?_
  refine n_iload_n (i := 2) (x := 16) dJ7_fill_53178_5 rfl 0 rfl ?_
  refine n_iload_n (i := 3) (x := 30) dJ7_fill_53178_6 rfl 1 rfl ?_
  refine n_ge_f (x := 16) (y := 30) (tgt := 20) dJ7_fill_53178_7 (by decide) (by decide) ?_
  refine n_aload_n (i := 0) (x := k0) dJ7_fill_53178_10 rfl 2 rfl ?_
  refine n_iload_n (i := 2) (x := 16) dJ7_fill_53178_11 rfl 0 rfl ?_
  refine n_iload_n (i := 1) (x := p1) dJ7_fill_53178_12 rfl 3 rfl ?_
  refine n_iast dJ7_fill_53178_13 hkn hk (by decide) ?_
  refine q_nmN (fun s17 => ?_)
  refine n_iinc (i := 2) (x := 16) (v := 17) (L' := [(2, .int 17), (3, .int 30), (0, .ref k0), (1, .int p1)]) dJ7_fill_53178_14 0 rfl (by decide) (Nat.le_of_ble_eq_true rfl) rfl ?_
  refine n_goto (tgt := 5) dJ7_fill_53178_17 (by decide) ?_
  refine n_iload_n (i := 2) (x := 17) dJ7_fill_53178_5 rfl 0 rfl ?_
  refine n_iload_n (i := 3) (x := 30) dJ7_fill_53178_6 rfl 1 rfl ?_
  refine n_ge_f (x := 17) (y := 30) (tgt := 20) dJ7_fill_53178_7 (by decide) (by decide) ?_
  refine n_aload_n (i := 0) (x := k0) dJ7_fill_53178_10 rfl 2 rfl ?_
  refine n_iload_n (i := 2) (x := 17) dJ7_fill_53178_11 rfl 0 rfl ?_
  refine n_iload_n (i := 1) (x := p1) dJ7_fill_53178_12 rfl 3 rfl ?_
  refine n_iast dJ7_fill_53178_13 hkn hk (by decide) ?_
  refine q_nmN (fun s18 => ?_)
  refine n_iinc (i := 2) (x := 17) (v := 18) (L' := [(2, .int 18), (3, .int 30), (0, .ref k0), (1, .int p1)]) dJ7_fill_53178_14 0 rfl (by decide) (Nat.le_of_ble_eq_true rfl) rfl ?_
  refine n_goto (tgt := 5) dJ7_fill_53178_17 (by decide) ?_
  refine n_iload_n (i := 2) (x := 18) dJ7_fill_53178_5 rfl 0 rfl ?_
  refine n_iload_n (i := 3) (x := 30) dJ7_fill_53178_6 rfl 1 rfl ?_
  refine n_ge_f (x := 18) (y := 30) (tgt := 20) dJ7_fill_53178_7 (by decide) (by decide) ?_
  refine n_aload_n (i := 0) (x := k0) dJ7_fill_53178_10 rfl 2 rfl ?_
  refine n_iload_n (i := 2) (x := 18) dJ7_fill_53178_11 rfl 0 rfl ?_
  refine n_iload_n (i := 1) (x := p1) dJ7_fill_53178_12 rfl 3 rfl ?_
  refine n_iast dJ7_fill_53178_13 hkn hk (by decide) ?_
  refine q_nmN (fun s19 => ?_)
  refine n_iinc (i := 2) (x := 18) (v := 19) (L' := [(2, .int 19), (3, .int 30), (0, .ref k0), (1, .int p1)]) dJ7_fill_53178_14 0 rfl (by decide) (Nat.le_of_ble_eq_true rfl) rfl ?_
  refine n_goto (tgt := 5) dJ7_fill_53178_17 (by decide) ?_
  refine n_iload_n (i := 2) (x := 19) dJ7_fill_53178_5 rfl 0 rfl ?_
  refine n_iload_n (i := 3) (x := 30) dJ7_fill_53178_6 rfl 1 rfl ?_
  refine n_ge_f (x := 19) (y := 30) (tgt := 20) dJ7_fill_53178_7 (by decide) (by decide) ?_
  refine n_aload_n (i := 0) (x := k0) dJ7_fill_53178_10 rfl 2 rfl ?_
  refine n_iload_n (i := 2) (x := 19) dJ7_fill_53178_11 rfl 0 rfl ?_
  refine n_iload_n (i := 1) (x := p1) dJ7_fill_53178_12 rfl 3 rfl ?_
  refine n_iast dJ7_fill_53178_13 hkn hk (by decide) ?_
  refine q_nmN (fun s20 => ?_)
  refine n_iinc (i := 2) (x := 19) (v := 20) (L' := [(2, .int 20), (3, .int 30), (0, .ref k0), (1, .int p1)]) dJ7_fill_53178_14 0 rfl (by decide) (Nat.le_of_ble_eq_true rfl) rfl ?_
  refine n_goto (tgt := 5) dJ7_fill_53178_17 (by decide) ?_
  refine n_iload_n (i := 2) (x := 20) dJ7_fill_53178_5 rfl 0 rfl ?_
  refine n_iload_n (i := 3) (x := 30) dJ7_fill_53178_6 rfl 1 rfl ?_
  refine n_ge_f (x := 20) (y := 30) (tgt := 20) dJ7_fill_53178_7 (by decide) (by decide) ?_
  refine n_aload_n (i := 0) (x := k0) dJ7_fill_53178_10 rfl 2 rfl ?_
  refine n_iload_n (i := 2) (x := 20) dJ7_fill_53178_11 rfl 0 rfl ?_
  refine n_iload_n (i := 1) (x := p1) dJ7_fill_53178_12 rfl 3 rfl ?_
  refine n_iast dJ7_fill_53178_13 hkn hk (by decide) ?_
  refine q_nmN (fun s21 => ?_)
  refine n_iinc (i := 2) (x := 20) (v := 21) (L' := [(2, .int 21), (3, .int 30), (0, .ref k0), (1, .int p1)]) dJ7_fill_53178_14 0 rfl (by decide) (Nat.le_of_ble_eq_true rfl) rfl ?_
  refine n_goto (tgt := 5) dJ7_fill_53178_17 (by decide) ?_
  refine n_iload_n (i := 2) (x := 21) dJ7_fill_53178_5 rfl 0 rfl ?_
  refine n_iload_n (i := 3) (x := 30) dJ7_fill_53178_6 rfl 1 rfl ?_
  refine n_ge_f (x := 21) (y := 30) (tgt := 20) dJ7_fill_53178_7 (by decide) (by decide) ?_
  refine n_aload_n (i := 0) (x := k0) dJ7_fill_53178_10 rfl 2 rfl ?_
  refine n_iload_n (i := 2) (x := 21) dJ7_fill_53178_11 rfl 0 rfl ?_
  refine n_iload_n (i := 1) (x := p1) dJ7_fill_53178_12 rfl 3 rfl ?_
  refine n_iast dJ7_fill_53178_13 hkn hk (by decide) ?_
  refine q_nmN (fun s22 => ?_)
  refine n_iinc (i := 2) (x := 21) (v := 22) (L' := [(2, .int 22), (3, .int 30), (0, .ref k0), (1, .int p1)]) dJ7_fill_53178_14 0 rfl (by decide) (Nat.le_of_ble_eq_true rfl) rfl ?_
  refine n_goto (tgt := 5) dJ7_fill_53178_17 (by decide) ?_
  refine n_iload_n (i := 2) (x := 22) dJ7_fill_53178_5 rfl 0 rfl ?_
  refine n_iload_n (i := 3) (x := 30) dJ7_fill_53178_6 rfl 1 rfl ?_
  refine n_ge_f (x := 22) (y := 30) (tgt := 20) dJ7_fill_53178_7 (by decide) (by decide) ?_
  refine n_aload_n (i := 0) (x := k0) dJ7_fill_53178_10 rfl 2 rfl ?_
  refine n_iload_n (i := 2) (x := 22) dJ7_fill_53178_11 rfl 0 rfl ?_
  refine n_iload_n (i := 1) (x := p1) dJ7_fill_53178_12 rfl 3 rfl ?_
  refine n_iast dJ7_fill_53178_13 hkn hk (by decide) ?_
  refine q_nmN (fun s23 => ?_)
  refine n_iinc (i := 2) (x := 22) (v := 23) (L' := [(2, .int 23), (3, .int 30), (0, .ref k0), (1, .int p1)]) dJ7_fill_53178_14 0 rfl (by decide) (Nat.le_of_ble_eq_true rfl) rfl ?_
  refine n_goto (tgt := 5) dJ7_fill_53178_17 (by decide) ?_
  refine n_iload_n (i := 2) (x := 23) dJ7_fill_53178_5 rfl 0 rfl ?_
  refine n_iload_n (i := 3) (x := 30) dJ7_fill_53178_6 rfl 1 rfl ?_
  refine n_ge_f (x := 23) (y := 30) (tgt := 20) dJ7_fill_53178_7 (by decide) (by decide) ?_
  refine n_aload_n (i := 0) (x := k0) dJ7_fill_53178_10 rfl 2 rfl ?_
  refine n_iload_n (i := 2) (x := 23) dJ7_fill_53178_11 rfl 0 rfl ?_
  refine n_iload_n (i := 1) (x := p1) dJ7_fill_53178_12 rfl 3 rfl ?_
  refine n_iast dJ7_fill_53178_13 hkn hk (by decide) ?_
  refine q_nmN (fun s24 => ?_)
  refine n_iinc (i := 2) (x := 23) (v := 24) (L' := [(2, .int 24), (3, .int 30), (0, .ref k0), (1, .int p1)]) dJ7_fill_53178_14 0 rfl (by decide) (Nat.le_of_ble_eq_true rfl) rfl ?_
  refine n_goto (tgt := 5) dJ7_fill_53178_17 (by decide) ?_
  refine n_iload_n (i := 2) (x := 24) dJ7_fill_53178_5 rfl 0 rfl ?_
  refine n_iload_n (i := 3) (x := 30) dJ7_fill_53178_6 rfl 1 rfl ?_
  refine n_ge_f (x := 24) (y := 30) (tgt := 20) dJ7_fill_53178_7 (by decide) (by decide) ?_
  refine n_aload_n (i := 0) (x := k0) dJ7_fill_53178_10 rfl 2 rfl ?_
  refine n_iload_n (i := 2) (x := 24) dJ7_fill_53178_11 rfl 0 rfl ?_
  refine n_iload_n (i := 1) (x := p1) dJ7_fill_53178_12 rfl 3 rfl ?_
  refine n_iast dJ7_fill_53178_13 hkn hk (by decide) ?_
  refine q_nmN (fun s25 => ?_)
  refine n_iinc (i := 2) (x := 24) (v := 25) (L' := [(2, .int 25), (3, .int 30), (0, .ref k0), (1, .int p1)]) dJ7_fill_53178_14 0 rfl (by decide) (Nat.le_of_ble_eq_true rfl) rfl ?_
  refine n_goto (tgt := 5) dJ7_fill_53178_17 (by decide) ?_
  refine n_iload_n (i := 2) (x := 25) dJ7_fill_53178_5 rfl 0 rfl ?_
  refine n_iload_n (i := 3) (x := 30) dJ7_fill_53178_6 rfl 1 rfl ?_
  refine n_ge_f (x := 25) (y := 30) (tgt := 20) dJ7_fill_53178_7 (by decide) (by decide) ?_
  refine n_aload_n (i := 0) (x := k0) dJ7_fill_53178_10 rfl 2 rfl ?_
  refine n_iload_n (i := 2) (x := 25) dJ7_fill_53178_11 rfl 0 rfl ?_
  refine n_iload_n (i := 1) (x := p1) dJ7_fill_53178_12 rfl 3 rfl ?_
  refine n_iast dJ7_fill_53178_13 hkn hk (by decide) ?_
  refine q_nmN (fun s26 => ?_)
  refine n_iinc (i := 2) (x := 25) (v := 26) (L' := [(2, .int 26), (3, .int 30), (0, .ref k0), (1, .int p1)]) dJ7_fill_53178_14 0 rfl (by decide) (Nat.le_of_ble_eq_true rfl) rfl ?_
  refine n_goto (tgt := 5) dJ7_fill_53178_17 (by decide) ?_
  refine n_iload_n (i := 2) (x := 26) dJ7_fill_53178_5 rfl 0 rfl ?_
  refine n_iload_n (i := 3) (x := 30) dJ7_fill_53178_6 rfl 1 rfl ?_
  refine n_ge_f (x := 26) (y := 30) (tgt := 20) dJ7_fill_53178_7 (by decide) (by decide) ?_
  refine n_aload_n (i := 0) (x := k0) dJ7_fill_53178_10 rfl 2 rfl ?_
  refine n_iload_n (i := 2) (x := 26) dJ7_fill_53178_11 rfl 0 rfl ?_
  refine n_iload_n (i := 1) (x := p1) dJ7_fill_53178_12 rfl 3 rfl ?_
  refine n_iast dJ7_fill_53178_13 hkn hk (by decide) ?_
  refine q_nmN (fun s27 => ?_)
  refine n_iinc (i := 2) (x := 26) (v := 27) (L' := [(2, .int 27), (3, .int 30), (0, .ref k0), (1, .int p1)]) dJ7_fill_53178_14 0 rfl (by decide) (Nat.le_of_ble_eq_true rfl) rfl ?_
  refine n_goto (tgt := 5) dJ7_fill_53178_17 (by decide) ?_
  refine n_iload_n (i := 2) (x := 27) dJ7_fill_53178_5 rfl 0 rfl ?_
  refine n_iload_n (i := 3) (x := 30) dJ7_fill_53178_6 rfl 1 rfl ?_
  refine n_ge_f (x := 27) (y := 30) (tgt := 20) dJ7_fill_53178_7 (by decide) (by decide) ?_
  refine n_aload_n (i := 0) (x := k0) dJ7_fill_53178_10 rfl 2 rfl ?_
  refine n_iload_n (i := 2) (x := 27) dJ7_fill_53178_11 rfl 0 rfl ?_
  refine n_iload_n (i := 1) (x := p1) dJ7_fill_53178_12 rfl 3 rfl ?_
  refine n_iast dJ7_fill_53178_13 hkn hk (by decide) ?_
  refine q_nmN (fun s28 => ?_)
  refine n_iinc (i := 2) (x := 27) (v := 28) (L' := [(2, .int 28), (3, .int 30), (0, .ref k0), (1, .int p1)]) dJ7_fill_53178_14 0 rfl (by decide) (Nat.le_of_ble_eq_true rfl) rfl ?_
  refine n_goto (tgt := 5) dJ7_fill_53178_17 (by decide) ?_
  refine n_iload_n (i := 2) (x := 28) dJ7_fill_53178_5 rfl 0 rfl ?_
  refine n_iload_n (i := 3) (x := 30) dJ7_fill_53178_6 rfl 1 rfl ?_
  refine n_ge_f (x := 28) (y := 30) (tgt := 20) dJ7_fill_53178_7 (by decide) (by decide) ?_
  refine n_aload_n (i := 0) (x := k0) dJ7_fill_53178_10 rfl 2 rfl ?_
  refine n_iload_n (i := 2) (x := 28) dJ7_fill_53178_11 rfl 0 rfl ?_
  refine n_iload_n (i := 1) (x := p1) dJ7_fill_53178_12 rfl 3 rfl ?_
  refine n_iast dJ7_fill_53178_13 hkn hk (by decide) ?_
  refine q_nmN (fun s29 => ?_)
  refine n_iinc (i := 2) (x := 28) (v := 29) (L' := [(2, .int 29), (3, .int 30), (0, .ref k0), (1, .int p1)]) dJ7_fill_53178_14 0 rfl (by decide) (Nat.le_of_ble_eq_true rfl) rfl ?_
  refine n_goto (tgt := 5) dJ7_fill_53178_17 (by decide) ?_
  refine n_iload_n (i := 2) (x := 29) dJ7_fill_53178_5 rfl 0 rfl ?_
  refine n_iload_n (i := 3) (x := 30) dJ7_fill_53178_6 rfl 1 rfl ?_
  refine n_ge_f (x := 29) (y := 30) (tgt := 20) dJ7_fill_53178_7 (by decide) (by decide) ?_
  refine n_aload_n (i := 0) (x := k0) dJ7_fill_53178_10 rfl 2 rfl ?_
  refine n_iload_n (i := 2) (x := 29) dJ7_fill_53178_11 rfl 0 rfl ?_
  refine n_iload_n (i := 1) (x := p1) dJ7_fill_53178_12 rfl 3 rfl ?_
  refine n_iast dJ7_fill_53178_13 hkn hk (by decide) ?_
  refine q_nmN (fun s30 => ?_)
  refine n_iinc (i := 2) (x := 29) (v := 30) (L' := [(2, .int 30), (3, .int 30), (0, .ref k0), (1, .int p1)]) dJ7_fill_53178_14 0 rfl (by decide) (Nat.le_of_ble_eq_true rfl) rfl ?_
  refine n_goto (tgt := 5) dJ7_fill_53178_17 (by decide) ?_
  refine n_iload_n (i := 2) (x := 30) dJ7_fill_53178_5 rfl 0 rfl ?_
  refine n_iload_n (i := 3) (x := 30) dJ7_fill_53178_6 rfl 1 rfl ?_
  refine n_ge_t (x := 30) (y := 30) (tgt := 20) dJ7_fill_53178_7 (by decide) (by decide) ?_
  exact n_vret dJ7_fill_53178_20 rfl
theorem knJ7_fill_53178 (k0 n0 : Nat) (p1 : Int32) (hkn : k0 < n0) (hk : wC.1[k0]? = some (.inl (.int, 30, []))) (σ : qMem) : qMn wC mJ7_fill_53178 [.ref k0, .int p1] n0 σ n0 0 0 (fnJ7_fill_53178 k0 p1 σ) := qMn_of moJ7_fill_53178 (Nat.le_of_ble_eq_true rfl) (anJ7_fill_53178 k0 n0 p1 hkn hk σ)

theorem dX8_init_0 : decode cX8_init 0 = .ok (.aload_n 0, 1) := by decide +kernel
theorem dX8_init_1 : decode cX8_init 1 = .ok (.invokespecial 3, 3) := by decide +kernel
theorem dX8_init_4 : decode cX8_init 4 = .ok (.aload_n 0, 1) := by decide +kernel
theorem dX8_init_5 : decode cX8_init 5 = .ok (.iconst 0, 1) := by decide +kernel
theorem dX8_init_6 : decode cX8_init 6 = .ok (.putfield 9, 3) := by decide +kernel
theorem dX8_init_9 : decode cX8_init 9 = .ok (.aload_n 0, 1) := by decide +kernel
theorem dX8_init_10 : decode cX8_init 10 = .ok (.iconst 1, 1) := by decide +kernel
theorem dX8_init_11 : decode cX8_init 11 = .ok (.iload_n 1, 1) := by decide +kernel
theorem dX8_init_12 : decode cX8_init 12 = .ok (.invokestatic 15, 3) := by decide +kernel
theorem dX8_init_15 : decode cX8_init 15 = .ok (.putfield 21, 3) := by decide +kernel
theorem dX8_init_18 : decode cX8_init 18 = .ok (.aload_n 0, 1) := by decide +kernel
theorem dX8_init_19 : decode cX8_init 19 = .ok (.iconst 1, 1) := by decide +kernel
theorem dX8_init_20 : decode cX8_init 20 = .ok (.iload_n 2, 1) := by decide +kernel
theorem dX8_init_21 : decode cX8_init 21 = .ok (.invokestatic 15, 3) := by decide +kernel
theorem dX8_init_24 : decode cX8_init 24 = .ok (.putfield 24, 3) := by decide +kernel
theorem dX8_init_27 : decode cX8_init 27 = .ok (.aload_n 0, 1) := by decide +kernel
theorem dX8_init_28 : decode cX8_init 28 = .ok (.aload_n 0, 1) := by decide +kernel
theorem dX8_init_29 : decode cX8_init 29 = .ok (.getfield 21, 3) := by decide +kernel
theorem dX8_init_32 : decode cX8_init 32 = .ok (.aload_n 0, 1) := by decide +kernel
theorem dX8_init_33 : decode cX8_init 33 = .ok (.getfield 24, 3) := by decide +kernel
theorem dX8_init_36 : decode cX8_init 36 = .ok (.imul, 1) := by decide +kernel
theorem dX8_init_37 : decode cX8_init 37 = .ok (.newarray .int, 2) := by decide +kernel
theorem dX8_init_39 : decode cX8_init 39 = .ok (.putfield 27, 3) := by decide +kernel
theorem dX8_init_42 : decode cX8_init 42 = .ok (.return_, 1) := by decide +kernel
set_option maxRecDepth 20000 in
set_option maxHeartbeats 4000000 in
def fnX8_init (k n : Nat) (p1 : Int32) (p2 : Int32) (σ : qMem) : Option qMem :=
  (nmM (si σ k 3 0) fun s1 => (nmM (si s1 k 0 (if 1 < p1 then p1 else 1)) fun s2 => (nmM (si s2 k 1 (if 1 < p2 then p2 else 1)) fun s3 => (if ckN ((gi s3 k 0) * (gi s3 k 1)) n = true then (nmM (si s3 k 2 1) fun s4 => (some s4)) else none))))
set_option maxRecDepth 20000 in
set_option maxHeartbeats 4000000 in
theorem anX8_init (k n : Nat) (p1 : Int32) (p2 : Int32) (hk : iRows k n) (hN : n ≤ 108) (σ : qMem) : qAn wC mX8_init 0 [(0, .ref k), (1, .int p1), (2, .int p2)] [] (k + 1) σ 0 0 (k + 2) 1 108 (fnX8_init k n p1 p2 σ) := by
  unfold fnX8_init
  refine n_aload_n (i := 0) (x := k) dX8_init_0 rfl 0 rfl ?_
  refine n_obj dX8_init_1 (g_1 48 (by decide +kernel) rfl) ob_in ob_co ⟨Nat.le_of_ble_eq_true rfl, Nat.le_of_ble_eq_true rfl⟩ ?_
  refine n_aload_n (i := 0) (x := k) dX8_init_4 rfl 0 rfl ?_
  refine n_iconst (v := 0) dX8_init_5 (by decide) ?_
  refine n_puti dX8_init_6 fpX8_9 rfl fnX8_X8_3 (by omega) hk.1 rfl ?_
  refine q_nmN (fun s1 => ?_)
  refine n_aload_n (i := 0) (x := k) dX8_init_9 rfl 0 rfl ?_
  refine n_iconst (v := 1) dX8_init_10 (by decide) ?_
  refine n_iload_n (i := 1) (x := p1) dX8_init_11 rfl 1 rfl ?_
  refine n_max dX8_init_12 (g_1 49 (by decide +kernel) rfl) mx_st mx_in mx_co ⟨by decide, Nat.le_of_ble_eq_true rfl⟩ ⟨by omega, by omega⟩ ?_
  refine n_puti dX8_init_15 fpX8_21 rfl fnX8_X8_0 (by omega) hk.1 rfl ?_
  refine q_nmN (fun s2 => ?_)
  refine n_aload_n (i := 0) (x := k) dX8_init_18 rfl 0 rfl ?_
  refine n_iconst (v := 1) dX8_init_19 (by decide) ?_
  refine n_iload_n (i := 2) (x := p2) dX8_init_20 rfl 2 rfl ?_
  refine n_max dX8_init_21 (g_1 49 (by decide +kernel) rfl) mx_st mx_in mx_co ⟨by decide, Nat.le_of_ble_eq_true rfl⟩ ⟨by omega, by omega⟩ ?_
  refine n_puti dX8_init_24 fpX8_24 rfl fnX8_X8_1 (by omega) hk.1 rfl ?_
  refine q_nmN (fun s3 => ?_)
  refine n_aload_n (i := 0) (x := k) dX8_init_27 rfl 0 rfl ?_
  refine n_aload_n (i := 0) (x := k) dX8_init_28 rfl 0 rfl ?_
  refine n_geti dX8_init_29 foX8_21 (by omega) hk.1 rfl ?_
  refine n_aload_n (i := 0) (x := k) dX8_init_32 rfl 0 rfl ?_
  refine n_geti dX8_init_33 foX8_24 (by omega) hk.1 rfl ?_
  refine n_imul dX8_init_36 ?_
  refine n_newa (ty := .int) (t0 := 0) (N := n) dX8_init_37 rfl ac_int (fun _ => rfl) (fun _ h => by cases h) hk.2 (by omega) (by decide) (fun _ _ => cB_int) ⟨by omega, by omega⟩ ?_
  refine n_widen (sl' := 108) (by omega) ?_
  refine n_cast (n2 := (k + 2)) (cl2 := 1) (sl2 := 108) rfl rfl rfl ?_
  refine n_putr (t := (k + 1)) dX8_init_39 fpX8_27 rfl fnX8_X8_2 (by first | exact Or.inl ⟨_, rfl⟩ | exact Or.inr ⟨_, rfl⟩) (by omega) hk.1 rfl ?_
  refine q_nmN (fun s4 => ?_)
  exact n_vret dX8_init_42 rfl
theorem knX8_init (k n : Nat) (p1 : Int32) (p2 : Int32) (hk : iRows k n) (hN : n ≤ 108) (σ : qMem) : qMn wC mX8_init [.ref k, .int p1, .int p2] (k + 1) σ (k + 2) 1 108 (fnX8_init k n p1 p2 σ) := qMn_of moX8_init (Nat.le_of_ble_eq_true rfl) (anX8_init k n p1 p2 hk hN σ)

theorem dX1_init_0 : decode cX1_init 0 = .ok (.aload_n 0, 1) := by decide +kernel
theorem dX1_init_1 : decode cX1_init 1 = .ok (.invokespecial 3, 3) := by decide +kernel
theorem dX1_init_4 : decode cX1_init 4 = .ok (.aload_n 0, 1) := by decide +kernel
theorem dX1_init_5 : decode cX1_init 5 = .ok (.new 9, 3) := by decide +kernel
theorem dX1_init_8 : decode cX1_init 8 = .ok (.dup, 1) := by decide +kernel
theorem dX1_init_9 : decode cX1_init 9 = .ok (.iconst 3, 1) := by decide +kernel
theorem dX1_init_10 : decode cX1_init 10 = .ok (.bipush 6, 2) := by decide +kernel
theorem dX1_init_12 : decode cX1_init 12 = .ok (.invokespecial 11, 3) := by decide +kernel
theorem dX1_init_15 : decode cX1_init 15 = .ok (.putfield 14, 3) := by decide +kernel
theorem dX1_init_18 : decode cX1_init 18 = .ok (.aload_n 0, 1) := by decide +kernel
theorem dX1_init_19 : decode cX1_init 19 = .ok (.bipush 24, 2) := by decide +kernel
theorem dX1_init_21 : decode cX1_init 21 = .ok (.newarray .int, 2) := by decide +kernel
theorem dX1_init_23 : decode cX1_init 23 = .ok (.putfield 20, 3) := by decide +kernel
theorem dX1_init_26 : decode cX1_init 26 = .ok (.aload_n 0, 1) := by decide +kernel
theorem dX1_init_27 : decode cX1_init 27 = .ok (.bipush 24, 2) := by decide +kernel
theorem dX1_init_29 : decode cX1_init 29 = .ok (.newarray .int, 2) := by decide +kernel
theorem dX1_init_31 : decode cX1_init 31 = .ok (.putfield 24, 3) := by decide +kernel
theorem dX1_init_34 : decode cX1_init 34 = .ok (.aload_n 0, 1) := by decide +kernel
theorem dX1_init_35 : decode cX1_init 35 = .ok (.bipush 24, 2) := by decide +kernel
theorem dX1_init_37 : decode cX1_init 37 = .ok (.newarray .int, 2) := by decide +kernel
theorem dX1_init_39 : decode cX1_init 39 = .ok (.putfield 27, 3) := by decide +kernel
theorem dX1_init_42 : decode cX1_init 42 = .ok (.aload_n 0, 1) := by decide +kernel
theorem dX1_init_43 : decode cX1_init 43 = .ok (.iconst 5, 1) := by decide +kernel
theorem dX1_init_44 : decode cX1_init 44 = .ok (.putfield 30, 3) := by decide +kernel
theorem dX1_init_47 : decode cX1_init 47 = .ok (.return_, 1) := by decide +kernel
set_option maxRecDepth 20000 in
set_option maxHeartbeats 4000000 in
def fnX1_init (k : Nat) (σ : qMem) : Option qMem :=
  ((fnX8_init (k + 1) 18 3 6 σ).bind fun s1 => (nmM (si s1 k 0 1) fun s2 => (if ckN 24 24 = true then (nmM (si s2 k 1 1) fun s3 => (if ckN 24 24 = true then (nmM (si s3 k 2 1) fun s4 => (if ckN 24 24 = true then (nmM (si s4 k 3 1) fun s5 => (nmM (si s5 k 4 5) fun s6 => (some s6))) else none)) else none)) else none)))
set_option maxRecDepth 20000 in
set_option maxHeartbeats 4000000 in
theorem anX1_init (k : Nat) (hk : iBoat k) (σ : qMem) : qAn wC mX1_init 0 [(0, .ref k)] [] (k + 1) σ 0 0 (k + 6) 5 184 (fnX1_init k σ) := by
  unfold fnX1_init
  refine n_aload_n (i := 0) (x := k) dX1_init_0 rfl 0 rfl ?_
  refine n_obj dX1_init_1 (g_1 42 (by decide +kernel) rfl) ob_in ob_co ⟨Nat.le_of_ble_eq_true rfl, Nat.le_of_ble_eq_true rfl⟩ ?_
  refine n_aload_n (i := 0) (x := k) dX1_init_4 rfl 0 rfl ?_
  refine n_new dX1_init_5 coX1_9 hk.2.1.1 rfl ⟨by omega, by omega⟩ ?_
  refine n_cast (n2 := (k + 2)) (cl2 := 1) (sl2 := 4) rfl rfl rfl ?_
  refine n_dup dX1_init_8 rfl ?_
  refine n_iconst (v := 3) dX1_init_9 (by decide) ?_
  refine n_bipush (v := 6) dX1_init_10 (by decide) ?_
  refine n_call mX8_init (n1 := (k + 3)) (mc1 := 1) (ms1 := 108) [.int 3, .int 6] (st := [.ref (k + 1), .ref k]) dX1_init_12 siX1_11 ⟨Nat.le_of_ble_eq_true rfl, Nat.le_of_ble_eq_true rfl⟩ rfl rfl (Nat.le_of_ble_eq_true rfl) (Nat.succ_le_of_lt (lt_len hk.2.1.1)) rfl ⟨by omega, by omega⟩ (knX8_init (k + 1) 18 3 6 hk.2.1 (by decide) σ) (fun s1 => ?_)
  refine n_cast (n2 := (k + 3)) (cl2 := 2) (sl2 := 112) rfl rfl rfl ?_
  refine n_putr (t := (k + 1)) dX1_init_15 fpX1_14 rfl fnX1_X1_0 (by first | exact Or.inl ⟨_, rfl⟩ | exact Or.inr ⟨_, rfl⟩) (by omega) hk.1 rfl ?_
  refine q_nmN (fun s2 => ?_)
  refine n_aload_n (i := 0) (x := k) dX1_init_18 rfl 0 rfl ?_
  refine n_bipush (v := 24) dX1_init_19 (by decide) ?_
  refine n_newa (ty := .int) (t0 := 0) (N := 24) dX1_init_21 rfl ac_int (fun _ => rfl) (fun _ h => by cases h) hk.2.2.1 (by decide) (by decide) (fun _ _ => cB_int) ⟨by omega, by omega⟩ ?_
  refine n_cast (n2 := (k + 4)) (cl2 := 3) (sl2 := 136) rfl rfl rfl ?_
  refine n_putr (t := (k + 3)) dX1_init_23 fpX1_20 rfl fnX1_X1_1 (by first | exact Or.inl ⟨_, rfl⟩ | exact Or.inr ⟨_, rfl⟩) (by omega) hk.1 rfl ?_
  refine q_nmN (fun s3 => ?_)
  refine n_aload_n (i := 0) (x := k) dX1_init_26 rfl 0 rfl ?_
  refine n_bipush (v := 24) dX1_init_27 (by decide) ?_
  refine n_newa (ty := .int) (t0 := 0) (N := 24) dX1_init_29 rfl ac_int (fun _ => rfl) (fun _ h => by cases h) hk.2.2.2.1 (by decide) (by decide) (fun _ _ => cB_int) ⟨by omega, by omega⟩ ?_
  refine n_cast (n2 := (k + 5)) (cl2 := 4) (sl2 := 160) rfl rfl rfl ?_
  refine n_putr (t := (k + 4)) dX1_init_31 fpX1_24 rfl fnX1_X1_2 (by first | exact Or.inl ⟨_, rfl⟩ | exact Or.inr ⟨_, rfl⟩) (by omega) hk.1 rfl ?_
  refine q_nmN (fun s4 => ?_)
  refine n_aload_n (i := 0) (x := k) dX1_init_34 rfl 0 rfl ?_
  refine n_bipush (v := 24) dX1_init_35 (by decide) ?_
  refine n_newa (ty := .int) (t0 := 0) (N := 24) dX1_init_37 rfl ac_int (fun _ => rfl) (fun _ h => by cases h) hk.2.2.2.2 (by decide) (by decide) (fun _ _ => cB_int) ⟨by omega, by omega⟩ ?_
  refine n_cast (n2 := (k + 6)) (cl2 := 5) (sl2 := 184) rfl rfl rfl ?_
  refine n_putr (t := (k + 5)) dX1_init_39 fpX1_27 rfl fnX1_X1_3 (by first | exact Or.inl ⟨_, rfl⟩ | exact Or.inr ⟨_, rfl⟩) (by omega) hk.1 rfl ?_
  refine q_nmN (fun s5 => ?_)
  refine n_aload_n (i := 0) (x := k) dX1_init_42 rfl 0 rfl ?_
  refine n_iconst (v := 5) dX1_init_43 (by decide) ?_
  refine n_puti dX1_init_44 fpX1_30 rfl fnX1_X1_4 (by omega) hk.1 rfl ?_
  refine q_nmN (fun s6 => ?_)
  exact n_vret dX1_init_47 rfl
theorem knX1_init (k : Nat) (hk : iBoat k) (σ : qMem) : qMn wC mX1_init [.ref k] (k + 1) σ (k + 6) 5 184 (fnX1_init k σ) := qMn_of moX1_init (Nat.le_of_ble_eq_true rfl) (anX1_init k hk σ)

theorem dX10_init_0 : decode cX10_init 0 = .ok (.aload_n 0, 1) := by decide +kernel
theorem dX10_init_1 : decode cX10_init 1 = .ok (.invokespecial 3, 3) := by decide +kernel
theorem dX10_init_4 : decode cX10_init 4 = .ok (.aload_n 0, 1) := by decide +kernel
theorem dX10_init_5 : decode cX10_init 5 = .ok (.bipush 30, 2) := by decide +kernel
theorem dX10_init_7 : decode cX10_init 7 = .ok (.newarray .int, 2) := by decide +kernel
theorem dX10_init_9 : decode cX10_init 9 = .ok (.putfield 9, 3) := by decide +kernel
theorem dX10_init_12 : decode cX10_init 12 = .ok (.aload_n 0, 1) := by decide +kernel
theorem dX10_init_13 : decode cX10_init 13 = .ok (.bipush 10, 2) := by decide +kernel
theorem dX10_init_15 : decode cX10_init 15 = .ok (.newarray .int, 2) := by decide +kernel
theorem dX10_init_17 : decode cX10_init 17 = .ok (.putfield 15, 3) := by decide +kernel
theorem dX10_init_20 : decode cX10_init 20 = .ok (.aload_n 0, 1) := by decide +kernel
theorem dX10_init_21 : decode cX10_init 21 = .ok (.iconst 0, 1) := by decide +kernel
theorem dX10_init_22 : decode cX10_init 22 = .ok (.putfield 18, 3) := by decide +kernel
theorem dX10_init_25 : decode cX10_init 25 = .ok (.aload_n 0, 1) := by decide +kernel
theorem dX10_init_26 : decode cX10_init 26 = .ok (.getfield 9, 3) := by decide +kernel
theorem dX10_init_29 : decode cX10_init 29 = .ok (.bipush 100, 2) := by decide +kernel
theorem dX10_init_31 : decode cX10_init 31 = .ok (.invokestatic 22, 3) := by decide +kernel
theorem dX10_init_34 : decode cX10_init 34 = .ok (.return_, 1) := by decide +kernel
set_option maxRecDepth 20000 in
set_option maxHeartbeats 4000000 in
def fnX10_init (k : Nat) (σ : qMem) : Option qMem :=
  (if ckN 30 30 = true then (nmM (si σ k 0 1) fun s1 => (if ckN 10 10 = true then (nmM (si s1 k 1 1) fun s2 => (nmM (si s2 k 2 0) fun s3 => (if ¬ gi s3 k 0 = 0 then ((fnJ7_fill_53178 (k + 1) 100 s3).bind fun s4 => (some s4)) else none))) else none)) else none)
set_option maxRecDepth 20000 in
set_option maxHeartbeats 4000000 in
theorem anX10_init (k : Nat) (hk : iWater k) (σ : qMem) : qAn wC mX10_init 0 [(0, .ref k)] [] (k + 1) σ 0 0 (k + 3) 2 40 (fnX10_init k σ) := by
  unfold fnX10_init
  refine n_aload_n (i := 0) (x := k) dX10_init_0 rfl 0 rfl ?_
  refine n_obj dX10_init_1 (g_1 101 (by decide +kernel) rfl) ob_in ob_co ⟨Nat.le_of_ble_eq_true rfl, Nat.le_of_ble_eq_true rfl⟩ ?_
  refine n_aload_n (i := 0) (x := k) dX10_init_4 rfl 0 rfl ?_
  refine n_bipush (v := 30) dX10_init_5 (by decide) ?_
  refine n_newa (ty := .int) (t0 := 0) (N := 30) dX10_init_7 rfl ac_int (fun _ => rfl) (fun _ h => by cases h) hk.2.1 (by decide) (by decide) (fun _ _ => cB_int) ⟨by omega, by omega⟩ ?_
  refine n_cast (n2 := (k + 2)) (cl2 := 1) (sl2 := 30) rfl rfl rfl ?_
  refine n_putr (t := (k + 1)) dX10_init_9 fpX10_9 rfl fnX10_X10_0 (by first | exact Or.inl ⟨_, rfl⟩ | exact Or.inr ⟨_, rfl⟩) (by omega) hk.1 rfl ?_
  refine q_nmN (fun s1 => ?_)
  refine n_aload_n (i := 0) (x := k) dX10_init_12 rfl 0 rfl ?_
  refine n_bipush (v := 10) dX10_init_13 (by decide) ?_
  refine n_newa (ty := .int) (t0 := 0) (N := 10) dX10_init_15 rfl ac_int (fun _ => rfl) (fun _ h => by cases h) hk.2.2 (by decide) (by decide) (fun _ _ => cB_int) ⟨by omega, by omega⟩ ?_
  refine n_cast (n2 := (k + 3)) (cl2 := 2) (sl2 := 40) rfl rfl rfl ?_
  refine n_putr (t := (k + 2)) dX10_init_17 fpX10_15 rfl fnX10_X10_1 (by first | exact Or.inl ⟨_, rfl⟩ | exact Or.inr ⟨_, rfl⟩) (by omega) hk.1 rfl ?_
  refine q_nmN (fun s2 => ?_)
  refine n_aload_n (i := 0) (x := k) dX10_init_20 rfl 0 rfl ?_
  refine n_iconst (v := 0) dX10_init_21 (by decide) ?_
  refine n_puti dX10_init_22 fpX10_18 rfl fnX10_X10_2 (by omega) hk.1 rfl ?_
  refine q_nmN (fun s3 => ?_)
  refine n_aload_n (i := 0) (x := k) dX10_init_25 rfl 0 rfl ?_
  refine n_getr (t := (k + 1)) dX10_init_26 foX10_9 (by omega) hk.1 rfl ?_
  refine n_bipush (v := 100) dX10_init_29 (by decide) ?_
  refine n_callS mJ7_fill_53178 [.ref (k + 1), .int 100] (st := []) dX10_init_31 ssX10_22 ⟨Nat.le_of_ble_eq_true rfl, Nat.le_of_ble_eq_true rfl⟩ rfl rfl (Nat.le_of_ble_eq_true rfl) (Nat.succ_le_of_lt (lt_len hk.2.2)) ⟨by omega, by omega⟩ (knJ7_fill_53178 (k + 1) (k + 3) 100 (by omega) hk.2.1 s3) (fun s4 => ?_)
  exact n_vret dX10_init_34 rfl
theorem knX10_init (k : Nat) (hk : iWater k) (σ : qMem) : qMn wC mX10_init [.ref k] (k + 1) σ (k + 3) 2 40 (fnX10_init k σ) := qMn_of moX10_init (Nat.le_of_ble_eq_true rfl) (anX10_init k hk σ)

theorem dX5_init_0 : decode cX5_init 0 = .ok (.aload_n 0, 1) := by decide +kernel
theorem dX5_init_1 : decode cX5_init 1 = .ok (.invokespecial 5, 3) := by decide +kernel
theorem dX5_init_4 : decode cX5_init 4 = .ok (.aload_n 0, 1) := by decide +kernel
theorem dX5_init_5 : decode cX5_init 5 = .ok (.new 11, 3) := by decide +kernel
theorem dX5_init_8 : decode cX5_init 8 = .ok (.dup, 1) := by decide +kernel
theorem dX5_init_9 : decode cX5_init 9 = .ok (.iconst 4, 1) := by decide +kernel
theorem dX5_init_10 : decode cX5_init 10 = .ok (.bipush 12, 2) := by decide +kernel
theorem dX5_init_12 : decode cX5_init 12 = .ok (.invokespecial 13, 3) := by decide +kernel
theorem dX5_init_15 : decode cX5_init 15 = .ok (.putfield 16, 3) := by decide +kernel
theorem dX5_init_18 : decode cX5_init 18 = .ok (.aload_n 0, 1) := by decide +kernel
theorem dX5_init_19 : decode cX5_init 19 = .ok (.sipush 400, 3) := by decide +kernel
theorem dX5_init_22 : decode cX5_init 22 = .ok (.newarray .int, 2) := by decide +kernel
theorem dX5_init_24 : decode cX5_init 24 = .ok (.putfield 20, 3) := by decide +kernel
theorem dX5_init_27 : decode cX5_init 27 = .ok (.aload_n 0, 1) := by decide +kernel
theorem dX5_init_28 : decode cX5_init 28 = .ok (.sipush 400, 3) := by decide +kernel
theorem dX5_init_31 : decode cX5_init 31 = .ok (.newarray .int, 2) := by decide +kernel
theorem dX5_init_33 : decode cX5_init 33 = .ok (.putfield 24, 3) := by decide +kernel
theorem dX5_init_36 : decode cX5_init 36 = .ok (.aload_n 0, 1) := by decide +kernel
theorem dX5_init_37 : decode cX5_init 37 = .ok (.iconst 5, 1) := by decide +kernel
theorem dX5_init_38 : decode cX5_init 38 = .ok (.newarray .int, 2) := by decide +kernel
theorem dX5_init_40 : decode cX5_init 40 = .ok (.putfield 27, 3) := by decide +kernel
theorem dX5_init_43 : decode cX5_init 43 = .ok (.aload_n 0, 1) := by decide +kernel
theorem dX5_init_44 : decode cX5_init 44 = .ok (.bipush 64, 2) := by decide +kernel
theorem dX5_init_46 : decode cX5_init 46 = .ok (.newarray .long, 2) := by decide +kernel
theorem dX5_init_48 : decode cX5_init 48 = .ok (.putfield 30, 3) := by decide +kernel
theorem dX5_init_51 : decode cX5_init 51 = .ok (.aload_n 0, 1) := by decide +kernel
theorem dX5_init_52 : decode cX5_init 52 = .ok (.iconst 0, 1) := by decide +kernel
theorem dX5_init_53 : decode cX5_init 53 = .ok (.putfield 34, 3) := by decide +kernel
theorem dX5_init_56 : decode cX5_init 56 = .ok (.aload_n 0, 1) := by decide +kernel
theorem dX5_init_57 : decode cX5_init 57 = .ok (.iconst 0, 1) := by decide +kernel
theorem dX5_init_58 : decode cX5_init 58 = .ok (.putfield 38, 3) := by decide +kernel
theorem dX5_init_61 : decode cX5_init 61 = .ok (.return_, 1) := by decide +kernel
set_option maxRecDepth 20000 in
set_option maxHeartbeats 4000000 in
def fnX5_init (k : Nat) (σ : qMem) : Option qMem :=
  ((fnX8_init (k + 1) 48 4 12 σ).bind fun s1 => (nmM (si s1 k 0 1) fun s2 => (if ckN 400 400 = true then (nmM (si s2 k 1 1) fun s3 => (if ckN 400 400 = true then (nmM (si s3 k 2 1) fun s4 => (if ckN 5 5 = true then (nmM (si s4 k 3 1) fun s5 => (if ckN 64 64 = true then (nmM (si s5 k 4 1) fun s6 => (nmM (si s6 k 5 0) fun s7 => (nmM (si s7 k 6 0) fun s8 => (some s8)))) else none)) else none)) else none)) else none)))
set_option maxRecDepth 20000 in
set_option maxHeartbeats 4000000 in
theorem anX5_init (k : Nat) (hk : iLaw k) (σ : qMem) : qAn wC mX5_init 0 [(0, .ref k)] [] (k + 1) σ 0 0 (k + 7) 6 981 (fnX5_init k σ) := by
  unfold fnX5_init
  refine n_aload_n (i := 0) (x := k) dX5_init_0 rfl 0 rfl ?_
  refine n_obj dX5_init_1 (g_1 125 (by decide +kernel) rfl) ob_in ob_co ⟨Nat.le_of_ble_eq_true rfl, Nat.le_of_ble_eq_true rfl⟩ ?_
  refine n_aload_n (i := 0) (x := k) dX5_init_4 rfl 0 rfl ?_
  refine n_new dX5_init_5 coX5_11 hk.2.1.1 rfl ⟨by omega, by omega⟩ ?_
  refine n_cast (n2 := (k + 2)) (cl2 := 1) (sl2 := 4) rfl rfl rfl ?_
  refine n_dup dX5_init_8 rfl ?_
  refine n_iconst (v := 4) dX5_init_9 (by decide) ?_
  refine n_bipush (v := 12) dX5_init_10 (by decide) ?_
  refine n_call mX8_init (n1 := (k + 3)) (mc1 := 1) (ms1 := 108) [.int 4, .int 12] (st := [.ref (k + 1), .ref k]) dX5_init_12 siX5_13 ⟨Nat.le_of_ble_eq_true rfl, Nat.le_of_ble_eq_true rfl⟩ rfl rfl (Nat.le_of_ble_eq_true rfl) (Nat.succ_le_of_lt (lt_len hk.2.1.1)) rfl ⟨by omega, by omega⟩ (knX8_init (k + 1) 48 4 12 hk.2.1 (by decide) σ) (fun s1 => ?_)
  refine n_cast (n2 := (k + 3)) (cl2 := 2) (sl2 := 112) rfl rfl rfl ?_
  refine n_putr (t := (k + 1)) dX5_init_15 fpX5_16 rfl fnX5_X5_0 (by first | exact Or.inl ⟨_, rfl⟩ | exact Or.inr ⟨_, rfl⟩) (by omega) hk.1 rfl ?_
  refine q_nmN (fun s2 => ?_)
  refine n_aload_n (i := 0) (x := k) dX5_init_18 rfl 0 rfl ?_
  refine n_sipush (v := 400) dX5_init_19 (by decide) ?_
  refine n_newa (ty := .int) (t0 := 0) (N := 400) dX5_init_22 rfl ac_int (fun _ => rfl) (fun _ h => by cases h) hk.2.2.1 (by decide) (by decide) (fun _ _ => cB_int) ⟨by omega, by omega⟩ ?_
  refine n_cast (n2 := (k + 4)) (cl2 := 3) (sl2 := 512) rfl rfl rfl ?_
  refine n_putr (t := (k + 3)) dX5_init_24 fpX5_20 rfl fnX5_X5_1 (by first | exact Or.inl ⟨_, rfl⟩ | exact Or.inr ⟨_, rfl⟩) (by omega) hk.1 rfl ?_
  refine q_nmN (fun s3 => ?_)
  refine n_aload_n (i := 0) (x := k) dX5_init_27 rfl 0 rfl ?_
  refine n_sipush (v := 400) dX5_init_28 (by decide) ?_
  refine n_newa (ty := .int) (t0 := 0) (N := 400) dX5_init_31 rfl ac_int (fun _ => rfl) (fun _ h => by cases h) hk.2.2.2.1 (by decide) (by decide) (fun _ _ => cB_int) ⟨by omega, by omega⟩ ?_
  refine n_cast (n2 := (k + 5)) (cl2 := 4) (sl2 := 912) rfl rfl rfl ?_
  refine n_putr (t := (k + 4)) dX5_init_33 fpX5_24 rfl fnX5_X5_2 (by first | exact Or.inl ⟨_, rfl⟩ | exact Or.inr ⟨_, rfl⟩) (by omega) hk.1 rfl ?_
  refine q_nmN (fun s4 => ?_)
  refine n_aload_n (i := 0) (x := k) dX5_init_36 rfl 0 rfl ?_
  refine n_iconst (v := 5) dX5_init_37 (by decide) ?_
  refine n_newa (ty := .int) (t0 := 0) (N := 5) dX5_init_38 rfl ac_int (fun _ => rfl) (fun _ h => by cases h) hk.2.2.2.2.1 (by decide) (by decide) (fun _ _ => cB_int) ⟨by omega, by omega⟩ ?_
  refine n_cast (n2 := (k + 6)) (cl2 := 5) (sl2 := 917) rfl rfl rfl ?_
  refine n_putr (t := (k + 5)) dX5_init_40 fpX5_27 rfl fnX5_X5_3 (by first | exact Or.inl ⟨_, rfl⟩ | exact Or.inr ⟨_, rfl⟩) (by omega) hk.1 rfl ?_
  refine q_nmN (fun s5 => ?_)
  refine n_aload_n (i := 0) (x := k) dX5_init_43 rfl 0 rfl ?_
  refine n_bipush (v := 64) dX5_init_44 (by decide) ?_
  refine n_newa (ty := .long) (t0 := 1) (N := 64) dX5_init_46 rfl ac_long (fun _ => rfl) (fun _ h => by cases h) hk.2.2.2.2.2 (by decide) (by decide) (fun _ _ => cB_long) ⟨by omega, by omega⟩ ?_
  refine n_cast (n2 := (k + 7)) (cl2 := 6) (sl2 := 981) rfl rfl rfl ?_
  refine n_putr (t := (k + 6)) dX5_init_48 fpX5_30 rfl fnX5_X5_4 (by first | exact Or.inl ⟨_, rfl⟩ | exact Or.inr ⟨_, rfl⟩) (by omega) hk.1 rfl ?_
  refine q_nmN (fun s6 => ?_)
  refine n_aload_n (i := 0) (x := k) dX5_init_51 rfl 0 rfl ?_
  refine n_iconst (v := 0) dX5_init_52 (by decide) ?_
  refine n_puti dX5_init_53 fpX5_34 rfl fnX5_X5_5 (by omega) hk.1 rfl ?_
  refine q_nmN (fun s7 => ?_)
  refine n_aload_n (i := 0) (x := k) dX5_init_56 rfl 0 rfl ?_
  refine n_iconst (v := 0) dX5_init_57 (by decide) ?_
  refine n_puti dX5_init_58 fpX5_38 rfl fnX5_X5_6 (by omega) hk.1 rfl ?_
  refine q_nmN (fun s8 => ?_)
  exact n_vret dX5_init_61 rfl
theorem knX5_init (k : Nat) (hk : iLaw k) (σ : qMem) : qMn wC mX5_init [.ref k] (k + 1) σ (k + 7) 6 981 (fnX5_init k σ) := qMn_of moX5_init (Nat.le_of_ble_eq_true rfl) (anX5_init k hk σ)

theorem dX7_init_0 : decode cX7_init 0 = .ok (.aload_n 0, 1) := by decide +kernel
theorem dX7_init_1 : decode cX7_init 1 = .ok (.invokespecial 3, 3) := by decide +kernel
theorem dX7_init_4 : decode cX7_init 4 = .ok (.aload_n 0, 1) := by decide +kernel
theorem dX7_init_5 : decode cX7_init 5 = .ok (.sipush 201, 3) := by decide +kernel
theorem dX7_init_8 : decode cX7_init 8 = .ok (.newarray .boolean, 2) := by decide +kernel
theorem dX7_init_10 : decode cX7_init 10 = .ok (.putfield 9, 3) := by decide +kernel
theorem dX7_init_13 : decode cX7_init 13 = .ok (.aload_n 0, 1) := by decide +kernel
theorem dX7_init_14 : decode cX7_init 14 = .ok (.sipush 401, 3) := by decide +kernel
theorem dX7_init_17 : decode cX7_init 17 = .ok (.newarray .int, 2) := by decide +kernel
theorem dX7_init_19 : decode cX7_init 19 = .ok (.putfield 15, 3) := by decide +kernel
theorem dX7_init_22 : decode cX7_init 22 = .ok (.return_, 1) := by decide +kernel
set_option maxRecDepth 20000 in
set_option maxHeartbeats 4000000 in
def fnX7_init (k : Nat) (σ : qMem) : Option qMem :=
  (if ckN 201 201 = true then (nmM (si σ k 0 1) fun s1 => (if ckN 401 401 = true then (nmM (si s1 k 1 1) fun s2 => (some s2)) else none)) else none)
set_option maxRecDepth 20000 in
set_option maxHeartbeats 4000000 in
theorem anX7_init (k : Nat) (hk : iRings k) (σ : qMem) : qAn wC mX7_init 0 [(0, .ref k)] [] (k + 1) σ 0 0 (k + 3) 2 602 (fnX7_init k σ) := by
  unfold fnX7_init
  refine n_aload_n (i := 0) (x := k) dX7_init_0 rfl 0 rfl ?_
  refine n_obj dX7_init_1 (g_1 233 (by decide +kernel) rfl) ob_in ob_co ⟨Nat.le_of_ble_eq_true rfl, Nat.le_of_ble_eq_true rfl⟩ ?_
  refine n_aload_n (i := 0) (x := k) dX7_init_4 rfl 0 rfl ?_
  refine n_sipush (v := 201) dX7_init_5 (by decide) ?_
  refine n_newa (ty := .boolean) (t0 := 2) (N := 201) dX7_init_8 rfl ac_boolean (fun _ => rfl) (fun _ h => by cases h) hk.2.1 (by decide) (by decide) (fun _ _ => cB_bool) ⟨by omega, by omega⟩ ?_
  refine n_cast (n2 := (k + 2)) (cl2 := 1) (sl2 := 201) rfl rfl rfl ?_
  refine n_putr (t := (k + 1)) dX7_init_10 fpX7_9 rfl fnX7_X7_0 (by first | exact Or.inl ⟨_, rfl⟩ | exact Or.inr ⟨_, rfl⟩) (by omega) hk.1 rfl ?_
  refine q_nmN (fun s1 => ?_)
  refine n_aload_n (i := 0) (x := k) dX7_init_13 rfl 0 rfl ?_
  refine n_sipush (v := 401) dX7_init_14 (by decide) ?_
  refine n_newa (ty := .int) (t0 := 0) (N := 401) dX7_init_17 rfl ac_int (fun _ => rfl) (fun _ h => by cases h) hk.2.2 (by decide) (by decide) (fun _ _ => cB_int) ⟨by omega, by omega⟩ ?_
  refine n_cast (n2 := (k + 3)) (cl2 := 2) (sl2 := 602) rfl rfl rfl ?_
  refine n_putr (t := (k + 2)) dX7_init_19 fpX7_15 rfl fnX7_X7_1 (by first | exact Or.inl ⟨_, rfl⟩ | exact Or.inr ⟨_, rfl⟩) (by omega) hk.1 rfl ?_
  refine q_nmN (fun s2 => ?_)
  exact n_vret dX7_init_22 rfl
theorem knX7_init (k : Nat) (hk : iRings k) (σ : qMem) : qMn wC mX7_init [.ref k] (k + 1) σ (k + 3) 2 602 (fnX7_init k σ) := qMn_of moX7_init (Nat.le_of_ble_eq_true rfl) (anX7_init k hk σ)

theorem dX0_init_0 : decode cX0_init 0 = .ok (.aload_n 0, 1) := by decide +kernel
theorem dX0_init_1 : decode cX0_init 1 = .ok (.invokespecial 3, 3) := by decide +kernel
theorem dX0_init_4 : decode cX0_init 4 = .ok (.aload_n 0, 1) := by decide +kernel
theorem dX0_init_5 : decode cX0_init 5 = .ok (.iconst 0, 1) := by decide +kernel
theorem dX0_init_6 : decode cX0_init 6 = .ok (.putfield 9, 3) := by decide +kernel
theorem dX0_init_9 : decode cX0_init 9 = .ok (.aload_n 0, 1) := by decide +kernel
theorem dX0_init_10 : decode cX0_init 10 = .ok (.iconst (-1), 1) := by decide +kernel
theorem dX0_init_11 : decode cX0_init 11 = .ok (.putfield 15, 3) := by decide +kernel
theorem dX0_init_14 : decode cX0_init 14 = .ok (.aload_n 0, 1) := by decide +kernel
theorem dX0_init_15 : decode cX0_init 15 = .ok (.iconst 0, 1) := by decide +kernel
theorem dX0_init_16 : decode cX0_init 16 = .ok (.putfield 18, 3) := by decide +kernel
theorem dX0_init_19 : decode cX0_init 19 = .ok (.aload_n 0, 1) := by decide +kernel
theorem dX0_init_20 : decode cX0_init 20 = .ok (.iconst (-1), 1) := by decide +kernel
theorem dX0_init_21 : decode cX0_init 21 = .ok (.putfield 21, 3) := by decide +kernel
theorem dX0_init_24 : decode cX0_init 24 = .ok (.return_, 1) := by decide +kernel
set_option maxRecDepth 20000 in
set_option maxHeartbeats 4000000 in
def fnX0_init  (σ : qMem) : Option qMem :=
  (nmM (si σ 62 0 0) fun s1 => (nmM (si s1 62 1 (-1)) fun s2 => (nmM (si s2 62 2 0) fun s3 => (nmM (si s3 62 3 (-1)) fun s4 => (some s4)))))
set_option maxRecDepth 20000 in
set_option maxHeartbeats 4000000 in
theorem anX0_init   (σ : qMem) : qAn wC mX0_init 0 [(0, .ref 62)] [] 63 σ 0 0 63 0 0 (fnX0_init  σ) := by
  unfold fnX0_init
  refine n_aload_n (i := 0) (x := 62) dX0_init_0 rfl 0 rfl ?_
  refine n_obj dX0_init_1 (g_2 7 (by decide +kernel) rfl) ob_in ob_co ⟨Nat.le_of_ble_eq_true rfl, Nat.le_of_ble_eq_true rfl⟩ ?_
  refine n_aload_n (i := 0) (x := 62) dX0_init_4 rfl 0 rfl ?_
  refine n_iconst (v := 0) dX0_init_5 (by decide) ?_
  refine n_puti dX0_init_6 fpX0_9 rfl fnX0_X0_0 (by omega) zC_62 rfl ?_
  refine q_nmN (fun s1 => ?_)
  refine n_aload_n (i := 0) (x := 62) dX0_init_9 rfl 0 rfl ?_
  refine n_iconst (v := (-1)) dX0_init_10 (by decide) ?_
  refine n_puti dX0_init_11 fpX0_15 rfl fnX0_X0_1 (by omega) zC_62 rfl ?_
  refine q_nmN (fun s2 => ?_)
  refine n_aload_n (i := 0) (x := 62) dX0_init_14 rfl 0 rfl ?_
  refine n_iconst (v := 0) dX0_init_15 (by decide) ?_
  refine n_puti dX0_init_16 fpX0_18 rfl fnX0_X0_2 (by omega) zC_62 rfl ?_
  refine q_nmN (fun s3 => ?_)
  refine n_aload_n (i := 0) (x := 62) dX0_init_19 rfl 0 rfl ?_
  refine n_iconst (v := (-1)) dX0_init_20 (by decide) ?_
  refine n_puti dX0_init_21 fpX0_21 rfl fnX0_X0_3 (by omega) zC_62 rfl ?_
  refine q_nmN (fun s4 => ?_)
  exact n_vret dX0_init_24 rfl
theorem knX0_init   (σ : qMem) : qMn wC mX0_init [.ref 62] 63 σ 63 0 0 (fnX0_init  σ) := qMn_of moX0_init (Nat.le_of_ble_eq_true rfl) (anX0_init   σ)

theorem dX2_init_0 : decode cX2_init 0 = .ok (.aload_n 0, 1) := by decide +kernel
theorem dX2_init_1 : decode cX2_init 1 = .ok (.invokespecial 3, 3) := by decide +kernel
theorem dX2_init_4 : decode cX2_init 4 = .ok (.aload_n 0, 1) := by decide +kernel
theorem dX2_init_5 : decode cX2_init 5 = .ok (.iconst 2, 1) := by decide +kernel
theorem dX2_init_6 : decode cX2_init 6 = .ok (.anewarray 9, 3) := by decide +kernel
theorem dX2_init_9 : decode cX2_init 9 = .ok (.dup, 1) := by decide +kernel
theorem dX2_init_10 : decode cX2_init 10 = .ok (.iconst 0, 1) := by decide +kernel
theorem dX2_init_11 : decode cX2_init 11 = .ok (.new 9, 3) := by decide +kernel
theorem dX2_init_14 : decode cX2_init 14 = .ok (.dup, 1) := by decide +kernel
theorem dX2_init_15 : decode cX2_init 15 = .ok (.invokespecial 11, 3) := by decide +kernel
theorem dX2_init_18 : decode cX2_init 18 = .ok (.aastore, 1) := by decide +kernel
theorem dX2_init_19 : decode cX2_init 19 = .ok (.dup, 1) := by decide +kernel
theorem dX2_init_20 : decode cX2_init 20 = .ok (.iconst 1, 1) := by decide +kernel
theorem dX2_init_21 : decode cX2_init 21 = .ok (.new 9, 3) := by decide +kernel
theorem dX2_init_24 : decode cX2_init 24 = .ok (.dup, 1) := by decide +kernel
theorem dX2_init_25 : decode cX2_init 25 = .ok (.invokespecial 11, 3) := by decide +kernel
theorem dX2_init_28 : decode cX2_init 28 = .ok (.aastore, 1) := by decide +kernel
theorem dX2_init_29 : decode cX2_init 29 = .ok (.putfield 12, 3) := by decide +kernel
theorem dX2_init_32 : decode cX2_init 32 = .ok (.aload_n 0, 1) := by decide +kernel
theorem dX2_init_33 : decode cX2_init 33 = .ok (.new 18, 3) := by decide +kernel
theorem dX2_init_36 : decode cX2_init 36 = .ok (.dup, 1) := by decide +kernel
theorem dX2_init_37 : decode cX2_init 37 = .ok (.invokespecial 20, 3) := by decide +kernel
theorem dX2_init_40 : decode cX2_init 40 = .ok (.putfield 21, 3) := by decide +kernel
theorem dX2_init_43 : decode cX2_init 43 = .ok (.aload_n 0, 1) := by decide +kernel
theorem dX2_init_44 : decode cX2_init 44 = .ok (.getstatic 25, 3) := by decide +kernel
theorem dX2_init_47 : decode cX2_init 47 = .ok (.arraylength, 1) := by decide +kernel
theorem dX2_init_48 : decode cX2_init 48 = .ok (.newarray .int, 2) := by decide +kernel
theorem dX2_init_50 : decode cX2_init 50 = .ok (.putfield 29, 3) := by decide +kernel
theorem dX2_init_53 : decode cX2_init 53 = .ok (.aload_n 0, 1) := by decide +kernel
theorem dX2_init_54 : decode cX2_init 54 = .ok (.new 32, 3) := by decide +kernel
theorem dX2_init_57 : decode cX2_init 57 = .ok (.dup, 1) := by decide +kernel
theorem dX2_init_58 : decode cX2_init 58 = .ok (.iconst 3, 1) := by decide +kernel
theorem dX2_init_59 : decode cX2_init 59 = .ok (.bipush 24, 2) := by decide +kernel
theorem dX2_init_61 : decode cX2_init 61 = .ok (.invokespecial 34, 3) := by decide +kernel
theorem dX2_init_64 : decode cX2_init 64 = .ok (.putfield 37, 3) := by decide +kernel
theorem dX2_init_67 : decode cX2_init 67 = .ok (.aload_n 0, 1) := by decide +kernel
theorem dX2_init_68 : decode cX2_init 68 = .ok (.new 32, 3) := by decide +kernel
theorem dX2_init_71 : decode cX2_init 71 = .ok (.dup, 1) := by decide +kernel
theorem dX2_init_72 : decode cX2_init 72 = .ok (.iconst 3, 1) := by decide +kernel
theorem dX2_init_73 : decode cX2_init 73 = .ok (.bipush 12, 2) := by decide +kernel
theorem dX2_init_75 : decode cX2_init 75 = .ok (.invokespecial 34, 3) := by decide +kernel
theorem dX2_init_78 : decode cX2_init 78 = .ok (.putfield 41, 3) := by decide +kernel
theorem dX2_init_81 : decode cX2_init 81 = .ok (.aload_n 0, 1) := by decide +kernel
theorem dX2_init_82 : decode cX2_init 82 = .ok (.new 32, 3) := by decide +kernel
theorem dX2_init_85 : decode cX2_init 85 = .ok (.dup, 1) := by decide +kernel
theorem dX2_init_86 : decode cX2_init 86 = .ok (.iconst 5, 1) := by decide +kernel
theorem dX2_init_87 : decode cX2_init 87 = .ok (.bipush 8, 2) := by decide +kernel
theorem dX2_init_89 : decode cX2_init 89 = .ok (.invokespecial 34, 3) := by decide +kernel
theorem dX2_init_92 : decode cX2_init 92 = .ok (.putfield 44, 3) := by decide +kernel
theorem dX2_init_95 : decode cX2_init 95 = .ok (.aload_n 0, 1) := by decide +kernel
theorem dX2_init_96 : decode cX2_init 96 = .ok (.new 32, 3) := by decide +kernel
theorem dX2_init_99 : decode cX2_init 99 = .ok (.dup, 1) := by decide +kernel
theorem dX2_init_100 : decode cX2_init 100 = .ok (.iconst 5, 1) := by decide +kernel
theorem dX2_init_101 : decode cX2_init 101 = .ok (.bipush 6, 2) := by decide +kernel
theorem dX2_init_103 : decode cX2_init 103 = .ok (.invokespecial 34, 3) := by decide +kernel
theorem dX2_init_106 : decode cX2_init 106 = .ok (.putfield 47, 3) := by decide +kernel
theorem dX2_init_109 : decode cX2_init 109 = .ok (.aload_n 0, 1) := by decide +kernel
theorem dX2_init_110 : decode cX2_init 110 = .ok (.new 32, 3) := by decide +kernel
theorem dX2_init_113 : decode cX2_init 113 = .ok (.dup, 1) := by decide +kernel
theorem dX2_init_114 : decode cX2_init 114 = .ok (.iconst 4, 1) := by decide +kernel
theorem dX2_init_115 : decode cX2_init 115 = .ok (.bipush 8, 2) := by decide +kernel
theorem dX2_init_117 : decode cX2_init 117 = .ok (.invokespecial 34, 3) := by decide +kernel
theorem dX2_init_120 : decode cX2_init 120 = .ok (.putfield 50, 3) := by decide +kernel
theorem dX2_init_123 : decode cX2_init 123 = .ok (.aload_n 0, 1) := by decide +kernel
theorem dX2_init_124 : decode cX2_init 124 = .ok (.new 32, 3) := by decide +kernel
theorem dX2_init_127 : decode cX2_init 127 = .ok (.dup, 1) := by decide +kernel
theorem dX2_init_128 : decode cX2_init 128 = .ok (.iconst 2, 1) := by decide +kernel
theorem dX2_init_129 : decode cX2_init 129 = .ok (.bipush 8, 2) := by decide +kernel
theorem dX2_init_131 : decode cX2_init 131 = .ok (.invokespecial 34, 3) := by decide +kernel
theorem dX2_init_134 : decode cX2_init 134 = .ok (.putfield 53, 3) := by decide +kernel
theorem dX2_init_137 : decode cX2_init 137 = .ok (.aload_n 0, 1) := by decide +kernel
theorem dX2_init_138 : decode cX2_init 138 = .ok (.new 32, 3) := by decide +kernel
theorem dX2_init_141 : decode cX2_init 141 = .ok (.dup, 1) := by decide +kernel
theorem dX2_init_142 : decode cX2_init 142 = .ok (.iconst 1, 1) := by decide +kernel
theorem dX2_init_143 : decode cX2_init 143 = .ok (.bipush 6, 2) := by decide +kernel
theorem dX2_init_145 : decode cX2_init 145 = .ok (.invokespecial 34, 3) := by decide +kernel
theorem dX2_init_148 : decode cX2_init 148 = .ok (.putfield 56, 3) := by decide +kernel
theorem dX2_init_151 : decode cX2_init 151 = .ok (.aload_n 0, 1) := by decide +kernel
theorem dX2_init_152 : decode cX2_init 152 = .ok (.new 32, 3) := by decide +kernel
theorem dX2_init_155 : decode cX2_init 155 = .ok (.dup, 1) := by decide +kernel
theorem dX2_init_156 : decode cX2_init 156 = .ok (.iconst 2, 1) := by decide +kernel
theorem dX2_init_157 : decode cX2_init 157 = .ok (.bipush 6, 2) := by decide +kernel
theorem dX2_init_159 : decode cX2_init 159 = .ok (.invokespecial 34, 3) := by decide +kernel
theorem dX2_init_162 : decode cX2_init 162 = .ok (.putfield 59, 3) := by decide +kernel
theorem dX2_init_165 : decode cX2_init 165 = .ok (.aload_n 0, 1) := by decide +kernel
theorem dX2_init_166 : decode cX2_init 166 = .ok (.new 62, 3) := by decide +kernel
theorem dX2_init_169 : decode cX2_init 169 = .ok (.dup, 1) := by decide +kernel
theorem dX2_init_170 : decode cX2_init 170 = .ok (.invokespecial 64, 3) := by decide +kernel
theorem dX2_init_173 : decode cX2_init 173 = .ok (.putfield 65, 3) := by decide +kernel
theorem dX2_init_176 : decode cX2_init 176 = .ok (.getstatic 25, 3) := by decide +kernel
theorem dX2_init_179 : decode cX2_init 179 = .ok (.iconst 0, 1) := by decide +kernel
theorem dX2_init_180 : decode cX2_init 180 = .ok (.aload_n 0, 1) := by decide +kernel
theorem dX2_init_181 : decode cX2_init 181 = .ok (.getfield 29, 3) := by decide +kernel
theorem dX2_init_184 : decode cX2_init 184 = .ok (.iconst 0, 1) := by decide +kernel
theorem dX2_init_185 : decode cX2_init 185 = .ok (.aload_n 0, 1) := by decide +kernel
theorem dX2_init_186 : decode cX2_init 186 = .ok (.getfield 29, 3) := by decide +kernel
theorem dX2_init_189 : decode cX2_init 189 = .ok (.arraylength, 1) := by decide +kernel
theorem dX2_init_190 : decode cX2_init 190 = .ok (.invokestatic 69, 3) := by decide +kernel
theorem dX2_init_193 : decode cX2_init 193 = .ok (.return_, 1) := by decide +kernel
set_option maxRecDepth 20000 in
set_option maxHeartbeats 4000000 in
def fnX2_init (k : Nat) (σ : qMem) : Option qMem :=
  ((fnX1_init (k + 2) σ).bind fun s1 => (nmM (si s1 (k + 1) 0 1) fun s2 => ((fnX1_init (k + 8) s2).bind fun s3 => (nmM (si s3 (k + 1) 1 1) fun s4 => (nmM (si s4 k 0 1) fun s5 => ((fnX10_init (k + 14) s5).bind fun s6 => (nmM (si s6 k 1 1) fun s7 => (if ckN 6 6 = true then (nmM (si s7 k 2 1) fun s8 => ((fnX8_init (k + 18) 72 3 24 s8).bind fun s9 => (nmM (si s9 k 3 1) fun s10 => ((fnX8_init (k + 20) 36 3 12 s10).bind fun s11 => (nmM (si s11 k 4 1) fun s12 => ((fnX8_init (k + 22) 40 5 8 s12).bind fun s13 => (nmM (si s13 k 5 1) fun s14 => ((fnX8_init (k + 24) 30 5 6 s14).bind fun s15 => (nmM (si s15 k 6 1) fun s16 => ((fnX8_init (k + 26) 32 4 8 s16).bind fun s17 => (nmM (si s17 k 7 1) fun s18 => ((fnX8_init (k + 28) 16 2 8 s18).bind fun s19 => (nmM (si s19 k 8 1) fun s20 => ((fnX8_init (k + 30) 6 1 6 s20).bind fun s21 => (nmM (si s21 k 9 1) fun s22 => ((fnX8_init (k + 32) 12 2 6 s22).bind fun s23 => (nmM (si s23 k 10 1) fun s24 => ((fnX5_init (k + 34) s24).bind fun s25 => (nmM (si s25 k 11 1) fun s26 => (if ¬ gi s26 k 2 = 0 then (if ¬ gi s26 k 2 = 0 then (nmM (sr s26 (k + 17) (va_cpy (fun i => tabF.getD i 0) (s26.1 (k + 17)) 0 0 (6 : Int32).toNatClampNeg)) fun s27 => (some s27)) else none) else none)))))))))))))))))))) else none))))))))
set_option maxRecDepth 20000 in
set_option maxHeartbeats 4000000 in
theorem anX2_init (k : Nat) (hk : iBook k) (σ : qMem) : qAn wC mX2_init 0 [(0, .ref k)] [] (k + 1) σ 0 0 (k + 41) 40 2313 (fnX2_init k σ) := by
  unfold fnX2_init
  refine n_aload_n (i := 0) (x := k) dX2_init_0 rfl 0 rfl ?_
  refine n_obj dX2_init_1 (g_1 35 (by decide +kernel) rfl) ob_in ob_co ⟨Nat.le_of_ble_eq_true rfl, Nat.le_of_ble_eq_true rfl⟩ ?_
  refine n_aload_n (i := 0) (x := k) dX2_init_4 rfl 0 rfl ?_
  refine n_iconst (v := 2) dX2_init_5 (by decide) ?_
  refine n_newq (t0 := 4) dX2_init_6 (g_1 36 (by decide +kernel) rfl) (by decide) (fun _ => rfl) hk.2.1 (by decide) (by decide) (by decide) ⟨by omega, by omega⟩ ?_
  refine n_cast (n2 := (k + 2)) (cl2 := 1) (sl2 := 2) rfl rfl rfl ?_
  refine n_dup dX2_init_9 rfl ?_
  refine n_iconst (v := 0) dX2_init_10 (by decide) ?_
  refine n_new dX2_init_11 coX2_9 hk.2.2.1.1 rfl ⟨by omega, by omega⟩ ?_
  refine n_cast (n2 := (k + 3)) (cl2 := 2) (sl2 := 7) rfl rfl rfl ?_
  refine n_dup dX2_init_14 rfl ?_
  refine n_call mX1_init (n1 := (k + 8)) (mc1 := 5) (ms1 := 184) [] (st := [.ref (k + 2), .int 0, .ref (k + 1), .ref (k + 1), .ref k]) dX2_init_15 siX2_11 ⟨Nat.le_of_ble_eq_true rfl, Nat.le_of_ble_eq_true rfl⟩ rfl rfl (Nat.le_of_ble_eq_true rfl) (Nat.succ_le_of_lt (lt_len hk.2.2.1.1)) rfl ⟨by omega, by omega⟩ (knX1_init (k + 2) hk.2.2.1 σ) (fun s1 => ?_)
  refine n_cast (n2 := (k + 8)) (cl2 := 7) (sl2 := 191) rfl rfl rfl ?_
  refine n_aast (t0 := 4) (j := 0) dX2_init_18 (by omega) hk.2.1 (by omega) hk.2.2.1.1 rfl (fun _ => rfl) (by decide) (by decide) rfl ?_
  refine q_nmN (fun s2 => ?_)
  refine n_dup dX2_init_19 rfl ?_
  refine n_iconst (v := 1) dX2_init_20 (by decide) ?_
  refine n_new dX2_init_21 coX2_9 hk.2.2.2.1.1 rfl ⟨by omega, by omega⟩ ?_
  refine n_cast (n2 := (k + 9)) (cl2 := 8) (sl2 := 196) rfl rfl rfl ?_
  refine n_dup dX2_init_24 rfl ?_
  refine n_call mX1_init (n1 := (k + 14)) (mc1 := 5) (ms1 := 184) [] (st := [.ref (k + 8), .int 1, .ref (k + 1), .ref (k + 1), .ref k]) dX2_init_25 siX2_11 ⟨Nat.le_of_ble_eq_true rfl, Nat.le_of_ble_eq_true rfl⟩ rfl rfl (Nat.le_of_ble_eq_true rfl) (Nat.succ_le_of_lt (lt_len hk.2.2.2.1.1)) rfl ⟨by omega, by omega⟩ (knX1_init (k + 8) hk.2.2.2.1 s2) (fun s3 => ?_)
  refine n_cast (n2 := (k + 14)) (cl2 := 13) (sl2 := 380) rfl rfl rfl ?_
  refine n_aast (t0 := 4) (j := 1) dX2_init_28 (by omega) hk.2.1 (by omega) hk.2.2.2.1.1 rfl (fun _ => rfl) (by decide) (by decide) rfl ?_
  refine q_nmN (fun s4 => ?_)
  refine n_putr (t := (k + 1)) dX2_init_29 fpX2_12 rfl fnX2_X2_0 (by first | exact Or.inl ⟨_, rfl⟩ | exact Or.inr ⟨_, rfl⟩) (by omega) hk.1 rfl ?_
  refine q_nmN (fun s5 => ?_)
  refine n_aload_n (i := 0) (x := k) dX2_init_32 rfl 0 rfl ?_
  refine n_new dX2_init_33 coX2_18 hk.2.2.2.2.1.1 rfl ⟨by omega, by omega⟩ ?_
  refine n_cast (n2 := (k + 15)) (cl2 := 14) (sl2 := 383) rfl rfl rfl ?_
  refine n_dup dX2_init_36 rfl ?_
  refine n_call mX10_init (n1 := (k + 17)) (mc1 := 2) (ms1 := 40) [] (st := [.ref (k + 14), .ref k]) dX2_init_37 siX2_20 ⟨Nat.le_of_ble_eq_true rfl, Nat.le_of_ble_eq_true rfl⟩ rfl rfl (Nat.le_of_ble_eq_true rfl) (Nat.succ_le_of_lt (lt_len hk.2.2.2.2.1.1)) rfl ⟨by omega, by omega⟩ (knX10_init (k + 14) hk.2.2.2.2.1 s5) (fun s6 => ?_)
  refine n_cast (n2 := (k + 17)) (cl2 := 16) (sl2 := 423) rfl rfl rfl ?_
  refine n_putr (t := (k + 14)) dX2_init_40 fpX2_21 rfl fnX2_X2_1 (by first | exact Or.inl ⟨_, rfl⟩ | exact Or.inr ⟨_, rfl⟩) (by omega) hk.1 rfl ?_
  refine q_nmN (fun s7 => ?_)
  refine n_aload_n (i := 0) (x := k) dX2_init_43 rfl 0 rfl ?_
  refine n_gst 1000 rfl dX2_init_44 (n_1 116 (by decide +kernel) rfl) (fun _ _ _ h => h.1.1) ?_
  refine n_slen 1000 tabF rfl dX2_init_47 (fun _ _ _ h => h.1.2) ?_
  refine n_newa (ty := .int) (t0 := 0) (N := 6) dX2_init_48 rfl ac_int (fun _ => rfl) (fun _ h => by cases h) hk.2.2.2.2.2.1 (by decide) (by decide) (fun _ _ => cB_int) ⟨by omega, by omega⟩ ?_
  refine n_cast (n2 := (k + 18)) (cl2 := 17) (sl2 := 429) rfl rfl rfl ?_
  refine n_putr (t := (k + 17)) dX2_init_50 fpX2_29 rfl fnX2_X2_2 (by first | exact Or.inl ⟨_, rfl⟩ | exact Or.inr ⟨_, rfl⟩) (by omega) hk.1 rfl ?_
  refine q_nmN (fun s8 => ?_)
  refine n_aload_n (i := 0) (x := k) dX2_init_53 rfl 0 rfl ?_
  refine n_new dX2_init_54 coX2_32 hk.2.2.2.2.2.2.1.1 rfl ⟨by omega, by omega⟩ ?_
  refine n_cast (n2 := (k + 19)) (cl2 := 18) (sl2 := 433) rfl rfl rfl ?_
  refine n_dup dX2_init_57 rfl ?_
  refine n_iconst (v := 3) dX2_init_58 (by decide) ?_
  refine n_bipush (v := 24) dX2_init_59 (by decide) ?_
  refine n_call mX8_init (n1 := (k + 20)) (mc1 := 1) (ms1 := 108) [.int 3, .int 24] (st := [.ref (k + 18), .ref k]) dX2_init_61 siX2_34 ⟨Nat.le_of_ble_eq_true rfl, Nat.le_of_ble_eq_true rfl⟩ rfl rfl (Nat.le_of_ble_eq_true rfl) (Nat.succ_le_of_lt (lt_len hk.2.2.2.2.2.2.1.1)) rfl ⟨by omega, by omega⟩ (knX8_init (k + 18) 72 3 24 hk.2.2.2.2.2.2.1 (by decide) s8) (fun s9 => ?_)
  refine n_cast (n2 := (k + 20)) (cl2 := 19) (sl2 := 541) rfl rfl rfl ?_
  refine n_putr (t := (k + 18)) dX2_init_64 fpX2_37 rfl fnX2_X2_3 (by first | exact Or.inl ⟨_, rfl⟩ | exact Or.inr ⟨_, rfl⟩) (by omega) hk.1 rfl ?_
  refine q_nmN (fun s10 => ?_)
  refine n_aload_n (i := 0) (x := k) dX2_init_67 rfl 0 rfl ?_
  refine n_new dX2_init_68 coX2_32 hk.2.2.2.2.2.2.2.1.1 rfl ⟨by omega, by omega⟩ ?_
  refine n_cast (n2 := (k + 21)) (cl2 := 20) (sl2 := 545) rfl rfl rfl ?_
  refine n_dup dX2_init_71 rfl ?_
  refine n_iconst (v := 3) dX2_init_72 (by decide) ?_
  refine n_bipush (v := 12) dX2_init_73 (by decide) ?_
  refine n_call mX8_init (n1 := (k + 22)) (mc1 := 1) (ms1 := 108) [.int 3, .int 12] (st := [.ref (k + 20), .ref k]) dX2_init_75 siX2_34 ⟨Nat.le_of_ble_eq_true rfl, Nat.le_of_ble_eq_true rfl⟩ rfl rfl (Nat.le_of_ble_eq_true rfl) (Nat.succ_le_of_lt (lt_len hk.2.2.2.2.2.2.2.1.1)) rfl ⟨by omega, by omega⟩ (knX8_init (k + 20) 36 3 12 hk.2.2.2.2.2.2.2.1 (by decide) s10) (fun s11 => ?_)
  refine n_cast (n2 := (k + 22)) (cl2 := 21) (sl2 := 653) rfl rfl rfl ?_
  refine n_putr (t := (k + 20)) dX2_init_78 fpX2_41 rfl fnX2_X2_4 (by first | exact Or.inl ⟨_, rfl⟩ | exact Or.inr ⟨_, rfl⟩) (by omega) hk.1 rfl ?_
  refine q_nmN (fun s12 => ?_)
  refine n_aload_n (i := 0) (x := k) dX2_init_81 rfl 0 rfl ?_
  refine n_new dX2_init_82 coX2_32 hk.2.2.2.2.2.2.2.2.1.1 rfl ⟨by omega, by omega⟩ ?_
  refine n_cast (n2 := (k + 23)) (cl2 := 22) (sl2 := 657) rfl rfl rfl ?_
  refine n_dup dX2_init_85 rfl ?_
  refine n_iconst (v := 5) dX2_init_86 (by decide) ?_
  refine n_bipush (v := 8) dX2_init_87 (by decide) ?_
  refine n_call mX8_init (n1 := (k + 24)) (mc1 := 1) (ms1 := 108) [.int 5, .int 8] (st := [.ref (k + 22), .ref k]) dX2_init_89 siX2_34 ⟨Nat.le_of_ble_eq_true rfl, Nat.le_of_ble_eq_true rfl⟩ rfl rfl (Nat.le_of_ble_eq_true rfl) (Nat.succ_le_of_lt (lt_len hk.2.2.2.2.2.2.2.2.1.1)) rfl ⟨by omega, by omega⟩ (knX8_init (k + 22) 40 5 8 hk.2.2.2.2.2.2.2.2.1 (by decide) s12) (fun s13 => ?_)
  refine n_cast (n2 := (k + 24)) (cl2 := 23) (sl2 := 765) rfl rfl rfl ?_
  refine n_putr (t := (k + 22)) dX2_init_92 fpX2_44 rfl fnX2_X2_5 (by first | exact Or.inl ⟨_, rfl⟩ | exact Or.inr ⟨_, rfl⟩) (by omega) hk.1 rfl ?_
  refine q_nmN (fun s14 => ?_)
  refine n_aload_n (i := 0) (x := k) dX2_init_95 rfl 0 rfl ?_
  refine n_new dX2_init_96 coX2_32 hk.2.2.2.2.2.2.2.2.2.1.1 rfl ⟨by omega, by omega⟩ ?_
  refine n_cast (n2 := (k + 25)) (cl2 := 24) (sl2 := 769) rfl rfl rfl ?_
  refine n_dup dX2_init_99 rfl ?_
  refine n_iconst (v := 5) dX2_init_100 (by decide) ?_
  refine n_bipush (v := 6) dX2_init_101 (by decide) ?_
  refine n_call mX8_init (n1 := (k + 26)) (mc1 := 1) (ms1 := 108) [.int 5, .int 6] (st := [.ref (k + 24), .ref k]) dX2_init_103 siX2_34 ⟨Nat.le_of_ble_eq_true rfl, Nat.le_of_ble_eq_true rfl⟩ rfl rfl (Nat.le_of_ble_eq_true rfl) (Nat.succ_le_of_lt (lt_len hk.2.2.2.2.2.2.2.2.2.1.1)) rfl ⟨by omega, by omega⟩ (knX8_init (k + 24) 30 5 6 hk.2.2.2.2.2.2.2.2.2.1 (by decide) s14) (fun s15 => ?_)
  refine n_cast (n2 := (k + 26)) (cl2 := 25) (sl2 := 877) rfl rfl rfl ?_
  refine n_putr (t := (k + 24)) dX2_init_106 fpX2_47 rfl fnX2_X2_6 (by first | exact Or.inl ⟨_, rfl⟩ | exact Or.inr ⟨_, rfl⟩) (by omega) hk.1 rfl ?_
  refine q_nmN (fun s16 => ?_)
  refine n_aload_n (i := 0) (x := k) dX2_init_109 rfl 0 rfl ?_
  refine n_new dX2_init_110 coX2_32 hk.2.2.2.2.2.2.2.2.2.2.1.1 rfl ⟨by omega, by omega⟩ ?_
  refine n_cast (n2 := (k + 27)) (cl2 := 26) (sl2 := 881) rfl rfl rfl ?_
  refine n_dup dX2_init_113 rfl ?_
  refine n_iconst (v := 4) dX2_init_114 (by decide) ?_
  refine n_bipush (v := 8) dX2_init_115 (by decide) ?_
  refine n_call mX8_init (n1 := (k + 28)) (mc1 := 1) (ms1 := 108) [.int 4, .int 8] (st := [.ref (k + 26), .ref k]) dX2_init_117 siX2_34 ⟨Nat.le_of_ble_eq_true rfl, Nat.le_of_ble_eq_true rfl⟩ rfl rfl (Nat.le_of_ble_eq_true rfl) (Nat.succ_le_of_lt (lt_len hk.2.2.2.2.2.2.2.2.2.2.1.1)) rfl ⟨by omega, by omega⟩ (knX8_init (k + 26) 32 4 8 hk.2.2.2.2.2.2.2.2.2.2.1 (by decide) s16) (fun s17 => ?_)
  refine n_cast (n2 := (k + 28)) (cl2 := 27) (sl2 := 989) rfl rfl rfl ?_
  refine n_putr (t := (k + 26)) dX2_init_120 fpX2_50 rfl fnX2_X2_7 (by first | exact Or.inl ⟨_, rfl⟩ | exact Or.inr ⟨_, rfl⟩) (by omega) hk.1 rfl ?_
  refine q_nmN (fun s18 => ?_)
  refine n_aload_n (i := 0) (x := k) dX2_init_123 rfl 0 rfl ?_
  refine n_new dX2_init_124 coX2_32 hk.2.2.2.2.2.2.2.2.2.2.2.1.1 rfl ⟨by omega, by omega⟩ ?_
  refine n_cast (n2 := (k + 29)) (cl2 := 28) (sl2 := 993) rfl rfl rfl ?_
  refine n_dup dX2_init_127 rfl ?_
  refine n_iconst (v := 2) dX2_init_128 (by decide) ?_
  refine n_bipush (v := 8) dX2_init_129 (by decide) ?_
  refine n_call mX8_init (n1 := (k + 30)) (mc1 := 1) (ms1 := 108) [.int 2, .int 8] (st := [.ref (k + 28), .ref k]) dX2_init_131 siX2_34 ⟨Nat.le_of_ble_eq_true rfl, Nat.le_of_ble_eq_true rfl⟩ rfl rfl (Nat.le_of_ble_eq_true rfl) (Nat.succ_le_of_lt (lt_len hk.2.2.2.2.2.2.2.2.2.2.2.1.1)) rfl ⟨by omega, by omega⟩ (knX8_init (k + 28) 16 2 8 hk.2.2.2.2.2.2.2.2.2.2.2.1 (by decide) s18) (fun s19 => ?_)
  refine n_cast (n2 := (k + 30)) (cl2 := 29) (sl2 := 1101) rfl rfl rfl ?_
  refine n_putr (t := (k + 28)) dX2_init_134 fpX2_53 rfl fnX2_X2_8 (by first | exact Or.inl ⟨_, rfl⟩ | exact Or.inr ⟨_, rfl⟩) (by omega) hk.1 rfl ?_
  refine q_nmN (fun s20 => ?_)
  refine n_aload_n (i := 0) (x := k) dX2_init_137 rfl 0 rfl ?_
  refine n_new dX2_init_138 coX2_32 hk.2.2.2.2.2.2.2.2.2.2.2.2.1.1 rfl ⟨by omega, by omega⟩ ?_
  refine n_cast (n2 := (k + 31)) (cl2 := 30) (sl2 := 1105) rfl rfl rfl ?_
  refine n_dup dX2_init_141 rfl ?_
  refine n_iconst (v := 1) dX2_init_142 (by decide) ?_
  refine n_bipush (v := 6) dX2_init_143 (by decide) ?_
  refine n_call mX8_init (n1 := (k + 32)) (mc1 := 1) (ms1 := 108) [.int 1, .int 6] (st := [.ref (k + 30), .ref k]) dX2_init_145 siX2_34 ⟨Nat.le_of_ble_eq_true rfl, Nat.le_of_ble_eq_true rfl⟩ rfl rfl (Nat.le_of_ble_eq_true rfl) (Nat.succ_le_of_lt (lt_len hk.2.2.2.2.2.2.2.2.2.2.2.2.1.1)) rfl ⟨by omega, by omega⟩ (knX8_init (k + 30) 6 1 6 hk.2.2.2.2.2.2.2.2.2.2.2.2.1 (by decide) s20) (fun s21 => ?_)
  refine n_cast (n2 := (k + 32)) (cl2 := 31) (sl2 := 1213) rfl rfl rfl ?_
  refine n_putr (t := (k + 30)) dX2_init_148 fpX2_56 rfl fnX2_X2_9 (by first | exact Or.inl ⟨_, rfl⟩ | exact Or.inr ⟨_, rfl⟩) (by omega) hk.1 rfl ?_
  refine q_nmN (fun s22 => ?_)
  refine n_aload_n (i := 0) (x := k) dX2_init_151 rfl 0 rfl ?_
  refine n_new dX2_init_152 coX2_32 hk.2.2.2.2.2.2.2.2.2.2.2.2.2.1.1 rfl ⟨by omega, by omega⟩ ?_
  refine n_cast (n2 := (k + 33)) (cl2 := 32) (sl2 := 1217) rfl rfl rfl ?_
  refine n_dup dX2_init_155 rfl ?_
  refine n_iconst (v := 2) dX2_init_156 (by decide) ?_
  refine n_bipush (v := 6) dX2_init_157 (by decide) ?_
  refine n_call mX8_init (n1 := (k + 34)) (mc1 := 1) (ms1 := 108) [.int 2, .int 6] (st := [.ref (k + 32), .ref k]) dX2_init_159 siX2_34 ⟨Nat.le_of_ble_eq_true rfl, Nat.le_of_ble_eq_true rfl⟩ rfl rfl (Nat.le_of_ble_eq_true rfl) (Nat.succ_le_of_lt (lt_len hk.2.2.2.2.2.2.2.2.2.2.2.2.2.1.1)) rfl ⟨by omega, by omega⟩ (knX8_init (k + 32) 12 2 6 hk.2.2.2.2.2.2.2.2.2.2.2.2.2.1 (by decide) s22) (fun s23 => ?_)
  refine n_cast (n2 := (k + 34)) (cl2 := 33) (sl2 := 1325) rfl rfl rfl ?_
  refine n_putr (t := (k + 32)) dX2_init_162 fpX2_59 rfl fnX2_X2_10 (by first | exact Or.inl ⟨_, rfl⟩ | exact Or.inr ⟨_, rfl⟩) (by omega) hk.1 rfl ?_
  refine q_nmN (fun s24 => ?_)
  refine n_aload_n (i := 0) (x := k) dX2_init_165 rfl 0 rfl ?_
  refine n_new dX2_init_166 coX2_62 hk.2.2.2.2.2.2.2.2.2.2.2.2.2.2.1 rfl ⟨by omega, by omega⟩ ?_
  refine n_cast (n2 := (k + 35)) (cl2 := 34) (sl2 := 1332) rfl rfl rfl ?_
  refine n_dup dX2_init_169 rfl ?_
  refine n_call mX5_init (n1 := (k + 41)) (mc1 := 6) (ms1 := 981) [] (st := [.ref (k + 34), .ref k]) dX2_init_170 siX2_64 ⟨Nat.le_of_ble_eq_true rfl, Nat.le_of_ble_eq_true rfl⟩ rfl rfl (Nat.le_of_ble_eq_true rfl) (Nat.succ_le_of_lt (lt_len hk.2.2.2.2.2.2.2.2.2.2.2.2.2.2.1)) rfl ⟨by omega, by omega⟩ (knX5_init (k + 34) hk.2.2.2.2.2.2.2.2.2.2.2.2.2.2 s24) (fun s25 => ?_)
  refine n_cast (n2 := (k + 41)) (cl2 := 40) (sl2 := 2313) rfl rfl rfl ?_
  refine n_putr (t := (k + 34)) dX2_init_173 fpX2_65 rfl fnX2_X2_11 (by first | exact Or.inl ⟨_, rfl⟩ | exact Or.inr ⟨_, rfl⟩) (by omega) hk.1 rfl ?_
  refine q_nmN (fun s26 => ?_)
  refine n_gst 1000 rfl dX2_init_176 (n_1 116 (by decide +kernel) rfl) (fun _ _ _ h => h.1.1) ?_
  refine n_iconst (v := 0) dX2_init_179 (by decide) ?_
  refine n_aload_n (i := 0) (x := k) dX2_init_180 rfl 0 rfl ?_
  refine n_getr (t := (k + 17)) dX2_init_181 foX2_29 (by omega) hk.1 rfl ?_
  refine n_iconst (v := 0) dX2_init_184 (by decide) ?_
  refine n_aload_n (i := 0) (x := k) dX2_init_185 rfl 0 rfl ?_
  refine n_getr (t := (k + 17)) dX2_init_186 foX2_29 (by omega) hk.1 rfl ?_
  refine n_alen (t0 := 0) (v := 6) dX2_init_189 (by omega) hk.2.2.2.2.2.1 (fun _ => rfl) (by decide) ?_
  refine n_copyT 1000 tabF rfl dX2_init_190 (g_1 154 (by decide +kernel) rfl) cp_nat cp_st cp_in (fun _ _ _ h => h.1.2) (by omega) hk.2.2.2.2.2.1 (by decide) (by decide) (by decide) ⟨by decide, Nat.le_of_ble_eq_true rfl⟩ ?_
  refine q_nmN (fun s27 => ?_)
  exact n_vret dX2_init_193 rfl
theorem knX2_init (k : Nat) (hk : iBook k) (σ : qMem) : qMn wC mX2_init [.ref k] (k + 1) σ (k + 41) 40 2313 (fnX2_init k σ) := qMn_of moX2_init (Nat.le_of_ble_eq_true rfl) (anX2_init k hk σ)

theorem dX3_init_0 : decode cX3_init 0 = .ok (.aload_n 0, 1) := by decide +kernel
theorem dX3_init_1 : decode cX3_init 1 = .ok (.invokespecial 3, 3) := by decide +kernel
theorem dX3_init_4 : decode cX3_init 4 = .ok (.aload_n 0, 1) := by decide +kernel
theorem dX3_init_5 : decode cX3_init 5 = .ok (.iconst 2, 1) := by decide +kernel
theorem dX3_init_6 : decode cX3_init 6 = .ok (.anewarray 9, 3) := by decide +kernel
theorem dX3_init_9 : decode cX3_init 9 = .ok (.dup, 1) := by decide +kernel
theorem dX3_init_10 : decode cX3_init 10 = .ok (.iconst 0, 1) := by decide +kernel
theorem dX3_init_11 : decode cX3_init 11 = .ok (.new 9, 3) := by decide +kernel
theorem dX3_init_14 : decode cX3_init 14 = .ok (.dup, 1) := by decide +kernel
theorem dX3_init_15 : decode cX3_init 15 = .ok (.iconst 3, 1) := by decide +kernel
theorem dX3_init_16 : decode cX3_init 16 = .ok (.bipush 36, 2) := by decide +kernel
theorem dX3_init_18 : decode cX3_init 18 = .ok (.invokespecial 11, 3) := by decide +kernel
theorem dX3_init_21 : decode cX3_init 21 = .ok (.aastore, 1) := by decide +kernel
theorem dX3_init_22 : decode cX3_init 22 = .ok (.dup, 1) := by decide +kernel
theorem dX3_init_23 : decode cX3_init 23 = .ok (.iconst 1, 1) := by decide +kernel
theorem dX3_init_24 : decode cX3_init 24 = .ok (.new 9, 3) := by decide +kernel
theorem dX3_init_27 : decode cX3_init 27 = .ok (.dup, 1) := by decide +kernel
theorem dX3_init_28 : decode cX3_init 28 = .ok (.iconst 3, 1) := by decide +kernel
theorem dX3_init_29 : decode cX3_init 29 = .ok (.bipush 36, 2) := by decide +kernel
theorem dX3_init_31 : decode cX3_init 31 = .ok (.invokespecial 11, 3) := by decide +kernel
theorem dX3_init_34 : decode cX3_init 34 = .ok (.aastore, 1) := by decide +kernel
theorem dX3_init_35 : decode cX3_init 35 = .ok (.putfield 14, 3) := by decide +kernel
theorem dX3_init_38 : decode cX3_init 38 = .ok (.aload_n 0, 1) := by decide +kernel
theorem dX3_init_39 : decode cX3_init 39 = .ok (.iconst 2, 1) := by decide +kernel
theorem dX3_init_40 : decode cX3_init 40 = .ok (.anewarray 20, 3) := by decide +kernel
theorem dX3_init_43 : decode cX3_init 43 = .ok (.dup, 1) := by decide +kernel
theorem dX3_init_44 : decode cX3_init 44 = .ok (.iconst 0, 1) := by decide +kernel
theorem dX3_init_45 : decode cX3_init 45 = .ok (.new 20, 3) := by decide +kernel
theorem dX3_init_48 : decode cX3_init 48 = .ok (.dup, 1) := by decide +kernel
theorem dX3_init_49 : decode cX3_init 49 = .ok (.invokespecial 22, 3) := by decide +kernel
theorem dX3_init_52 : decode cX3_init 52 = .ok (.aastore, 1) := by decide +kernel
theorem dX3_init_53 : decode cX3_init 53 = .ok (.dup, 1) := by decide +kernel
theorem dX3_init_54 : decode cX3_init 54 = .ok (.iconst 1, 1) := by decide +kernel
theorem dX3_init_55 : decode cX3_init 55 = .ok (.new 20, 3) := by decide +kernel
theorem dX3_init_58 : decode cX3_init 58 = .ok (.dup, 1) := by decide +kernel
theorem dX3_init_59 : decode cX3_init 59 = .ok (.invokespecial 22, 3) := by decide +kernel
theorem dX3_init_62 : decode cX3_init 62 = .ok (.aastore, 1) := by decide +kernel
theorem dX3_init_63 : decode cX3_init 63 = .ok (.putfield 23, 3) := by decide +kernel
theorem dX3_init_66 : decode cX3_init 66 = .ok (.aload_n 0, 1) := by decide +kernel
theorem dX3_init_67 : decode cX3_init 67 = .ok (.new 20, 3) := by decide +kernel
theorem dX3_init_70 : decode cX3_init 70 = .ok (.dup, 1) := by decide +kernel
theorem dX3_init_71 : decode cX3_init 71 = .ok (.invokespecial 22, 3) := by decide +kernel
theorem dX3_init_74 : decode cX3_init 74 = .ok (.putfield 27, 3) := by decide +kernel
theorem dX3_init_77 : decode cX3_init 77 = .ok (.aload_n 0, 1) := by decide +kernel
theorem dX3_init_78 : decode cX3_init 78 = .ok (.sipush 201, 3) := by decide +kernel
theorem dX3_init_81 : decode cX3_init 81 = .ok (.newarray .int, 2) := by decide +kernel
theorem dX3_init_83 : decode cX3_init 83 = .ok (.putfield 31, 3) := by decide +kernel
theorem dX3_init_86 : decode cX3_init 86 = .ok (.aload_n 0, 1) := by decide +kernel
theorem dX3_init_87 : decode cX3_init 87 = .ok (.sipush 1568, 3) := by decide +kernel
theorem dX3_init_90 : decode cX3_init 90 = .ok (.newarray .int, 2) := by decide +kernel
theorem dX3_init_92 : decode cX3_init 92 = .ok (.putfield 35, 3) := by decide +kernel
theorem dX3_init_95 : decode cX3_init 95 = .ok (.aload_n 0, 1) := by decide +kernel
theorem dX3_init_96 : decode cX3_init 96 = .ok (.new 38, 3) := by decide +kernel
theorem dX3_init_99 : decode cX3_init 99 = .ok (.dup, 1) := by decide +kernel
theorem dX3_init_100 : decode cX3_init 100 = .ok (.invokespecial 40, 3) := by decide +kernel
theorem dX3_init_103 : decode cX3_init 103 = .ok (.putfield 41, 3) := by decide +kernel
theorem dX3_init_106 : decode cX3_init 106 = .ok (.aload_n 0, 1) := by decide +kernel
theorem dX3_init_107 : decode cX3_init 107 = .ok (.bipush 7, 2) := by decide +kernel
theorem dX3_init_109 : decode cX3_init 109 = .ok (.newarray .int, 2) := by decide +kernel
theorem dX3_init_111 : decode cX3_init 111 = .ok (.putfield 45, 3) := by decide +kernel
theorem dX3_init_114 : decode cX3_init 114 = .ok (.aload_n 0, 1) := by decide +kernel
theorem dX3_init_115 : decode cX3_init 115 = .ok (.bipush 7, 2) := by decide +kernel
theorem dX3_init_117 : decode cX3_init 117 = .ok (.newarray .int, 2) := by decide +kernel
theorem dX3_init_119 : decode cX3_init 119 = .ok (.putfield 48, 3) := by decide +kernel
theorem dX3_init_122 : decode cX3_init 122 = .ok (.aload_n 0, 1) := by decide +kernel
theorem dX3_init_123 : decode cX3_init 123 = .ok (.bipush 7, 2) := by decide +kernel
theorem dX3_init_125 : decode cX3_init 125 = .ok (.newarray .int, 2) := by decide +kernel
theorem dX3_init_127 : decode cX3_init 127 = .ok (.putfield 51, 3) := by decide +kernel
theorem dX3_init_130 : decode cX3_init 130 = .ok (.aload_n 0, 1) := by decide +kernel
theorem dX3_init_131 : decode cX3_init 131 = .ok (.bipush 81, 2) := by decide +kernel
theorem dX3_init_133 : decode cX3_init 133 = .ok (.newarray .int, 2) := by decide +kernel
theorem dX3_init_135 : decode cX3_init 135 = .ok (.putfield 54, 3) := by decide +kernel
theorem dX3_init_138 : decode cX3_init 138 = .ok (.aload_n 0, 1) := by decide +kernel
theorem dX3_init_139 : decode cX3_init 139 = .ok (.bipush 6, 2) := by decide +kernel
theorem dX3_init_141 : decode cX3_init 141 = .ok (.newarray .int, 2) := by decide +kernel
theorem dX3_init_143 : decode cX3_init 143 = .ok (.putfield 57, 3) := by decide +kernel
theorem dX3_init_146 : decode cX3_init 146 = .ok (.aload_n 0, 1) := by decide +kernel
theorem dX3_init_147 : decode cX3_init 147 = .ok (.iconst 0, 1) := by decide +kernel
theorem dX3_init_148 : decode cX3_init 148 = .ok (.putfield 60, 3) := by decide +kernel
theorem dX3_init_151 : decode cX3_init 151 = .ok (.aload_n 0, 1) := by decide +kernel
theorem dX3_init_152 : decode cX3_init 152 = .ok (.iconst 0, 1) := by decide +kernel
theorem dX3_init_153 : decode cX3_init 153 = .ok (.putfield 64, 3) := by decide +kernel
theorem dX3_init_156 : decode cX3_init 156 = .ok (.aload_n 0, 1) := by decide +kernel
theorem dX3_init_157 : decode cX3_init 157 = .ok (.iconst 0, 1) := by decide +kernel
theorem dX3_init_158 : decode cX3_init 158 = .ok (.putfield 67, 3) := by decide +kernel
theorem dX3_init_161 : decode cX3_init 161 = .ok (.aload_n 0, 1) := by decide +kernel
theorem dX3_init_162 : decode cX3_init 162 = .ok (.iconst 0, 1) := by decide +kernel
theorem dX3_init_163 : decode cX3_init 163 = .ok (.putfield 70, 3) := by decide +kernel
theorem dX3_init_166 : decode cX3_init 166 = .ok (.aload_n 0, 1) := by decide +kernel
theorem dX3_init_167 : decode cX3_init 167 = .ok (.iconst 0, 1) := by decide +kernel
theorem dX3_init_168 : decode cX3_init 168 = .ok (.putfield 74, 3) := by decide +kernel
theorem dX3_init_171 : decode cX3_init 171 = .ok (.aload_n 0, 1) := by decide +kernel
theorem dX3_init_172 : decode cX3_init 172 = .ok (.iconst 0, 1) := by decide +kernel
theorem dX3_init_173 : decode cX3_init 173 = .ok (.putfield 77, 3) := by decide +kernel
theorem dX3_init_176 : decode cX3_init 176 = .ok (.aload_n 0, 1) := by decide +kernel
theorem dX3_init_177 : decode cX3_init 177 = .ok (.aload_n 1, 1) := by decide +kernel
theorem dX3_init_178 : decode cX3_init 178 = .ok (.putfield 80, 3) := by decide +kernel
theorem dX3_init_181 : decode cX3_init 181 = .ok (.return_, 1) := by decide +kernel
set_option maxRecDepth 20000 in
set_option maxHeartbeats 4000000 in
def fnX3_init  (σ : qMem) : Option qMem :=
  ((fnX8_init 46 108 3 36 σ).bind fun s1 => (nmM (si s1 45 0 1) fun s2 => ((fnX8_init 48 108 3 36 s2).bind fun s3 => (nmM (si s3 45 1 1) fun s4 => (nmM (si s4 44 1 1) fun s5 => ((fnX7_init 51 s5).bind fun s6 => (nmM (si s6 50 0 1) fun s7 => ((fnX7_init 54 s7).bind fun s8 => (nmM (si s8 50 1 1) fun s9 => (nmM (si s9 44 2 1) fun s10 => ((fnX7_init 57 s10).bind fun s11 => (nmM (si s11 44 3 1) fun s12 => (if ckN 201 201 = true then (nmM (si s12 44 4 1) fun s13 => (if ckN 1568 1568 = true then (nmM (si s13 44 5 1) fun s14 => ((fnX0_init s14).bind fun s15 => (nmM (si s15 44 6 1) fun s16 => (if ckN 7 7 = true then (nmM (si s16 44 7 1) fun s17 => (if ckN 7 7 = true then (nmM (si s17 44 8 1) fun s18 => (if ckN 7 7 = true then (nmM (si s18 44 9 1) fun s19 => (if ckN 81 81 = true then (nmM (si s19 44 10 1) fun s20 => (if ckN 6 6 = true then (nmM (si s20 44 11 1) fun s21 => (nmM (si s21 44 12 0) fun s22 => (nmM (si s22 44 13 0) fun s23 => (nmM (si s23 44 14 0) fun s24 => (nmM (si s24 44 15 0) fun s25 => (nmM (si s25 44 16 0) fun s26 => (nmM (si s26 44 17 0) fun s27 => (nmM (si s27 44 0 1) fun s28 => (some s28))))))))) else none)) else none)) else none)) else none)) else none)))) else none)) else none)))))))))))))
set_option maxRecDepth 20000 in
set_option maxHeartbeats 4000000 in
theorem anX3_init   (σ : qMem) : qAn wC mX3_init 0 [(0, .ref 44), (1, .ref 1)] [] 45 σ 0 0 68 23 3921 (fnX3_init  σ) := by
  unfold fnX3_init
  refine n_aload_n (i := 0) (x := 44) dX3_init_0 rfl 0 rfl ?_
  refine n_obj dX3_init_1 (g_1 223 (by decide +kernel) rfl) ob_in ob_co ⟨Nat.le_of_ble_eq_true rfl, Nat.le_of_ble_eq_true rfl⟩ ?_
  refine n_aload_n (i := 0) (x := 44) dX3_init_4 rfl 0 rfl ?_
  refine n_iconst (v := 2) dX3_init_5 (by decide) ?_
  refine n_newq (t0 := 7) dX3_init_6 (g_1 224 (by decide +kernel) rfl) (by decide) (fun _ => rfl) zC_45 (by decide) (by decide) (by decide) ⟨by omega, by omega⟩ ?_
  refine n_cast (n2 := 46) (cl2 := 1) (sl2 := 2) rfl rfl rfl ?_
  refine n_dup dX3_init_9 rfl ?_
  refine n_iconst (v := 0) dX3_init_10 (by decide) ?_
  refine n_new dX3_init_11 coX3_9 zC_46 rfl ⟨by omega, by omega⟩ ?_
  refine n_cast (n2 := 47) (cl2 := 2) (sl2 := 6) rfl rfl rfl ?_
  refine n_dup dX3_init_14 rfl ?_
  refine n_iconst (v := 3) dX3_init_15 (by decide) ?_
  refine n_bipush (v := 36) dX3_init_16 (by decide) ?_
  refine n_call mX8_init (n1 := 48) (mc1 := 1) (ms1 := 108) [.int 3, .int 36] (st := [.ref 46, .int 0, .ref 45, .ref 45, .ref 44]) dX3_init_18 siX3_11 ⟨Nat.le_of_ble_eq_true rfl, Nat.le_of_ble_eq_true rfl⟩ rfl rfl (Nat.le_of_ble_eq_true rfl) (Nat.succ_le_of_lt (lt_len zC_46)) rfl ⟨by omega, by omega⟩ (knX8_init 46 108 3 36 pC_46 (by decide) σ) (fun s1 => ?_)
  refine n_cast (n2 := 48) (cl2 := 3) (sl2 := 114) rfl rfl rfl ?_
  refine n_aast (t0 := 7) (j := 0) dX3_init_21 (by omega) zC_45 (by omega) zC_46 rfl (fun _ => rfl) (by decide) (by decide) rfl ?_
  refine q_nmN (fun s2 => ?_)
  refine n_dup dX3_init_22 rfl ?_
  refine n_iconst (v := 1) dX3_init_23 (by decide) ?_
  refine n_new dX3_init_24 coX3_9 zC_48 rfl ⟨by omega, by omega⟩ ?_
  refine n_cast (n2 := 49) (cl2 := 4) (sl2 := 118) rfl rfl rfl ?_
  refine n_dup dX3_init_27 rfl ?_
  refine n_iconst (v := 3) dX3_init_28 (by decide) ?_
  refine n_bipush (v := 36) dX3_init_29 (by decide) ?_
  refine n_call mX8_init (n1 := 50) (mc1 := 1) (ms1 := 108) [.int 3, .int 36] (st := [.ref 48, .int 1, .ref 45, .ref 45, .ref 44]) dX3_init_31 siX3_11 ⟨Nat.le_of_ble_eq_true rfl, Nat.le_of_ble_eq_true rfl⟩ rfl rfl (Nat.le_of_ble_eq_true rfl) (Nat.succ_le_of_lt (lt_len zC_48)) rfl ⟨by omega, by omega⟩ (knX8_init 48 108 3 36 pC_48 (by decide) s2) (fun s3 => ?_)
  refine n_cast (n2 := 50) (cl2 := 5) (sl2 := 226) rfl rfl rfl ?_
  refine n_aast (t0 := 7) (j := 1) dX3_init_34 (by omega) zC_45 (by omega) zC_48 rfl (fun _ => rfl) (by decide) (by decide) rfl ?_
  refine q_nmN (fun s4 => ?_)
  refine n_putr (t := 45) dX3_init_35 fpX3_14 rfl fnX3_X3_1 (by first | exact Or.inl ⟨_, rfl⟩ | exact Or.inr ⟨_, rfl⟩) (by omega) zC_44 rfl ?_
  refine q_nmN (fun s5 => ?_)
  refine n_aload_n (i := 0) (x := 44) dX3_init_38 rfl 0 rfl ?_
  refine n_iconst (v := 2) dX3_init_39 (by decide) ?_
  refine n_newq (t0 := 6) dX3_init_40 (g_1 227 (by decide +kernel) rfl) (by decide) (fun _ => rfl) zC_50 (by decide) (by decide) (by decide) ⟨by omega, by omega⟩ ?_
  refine n_cast (n2 := 51) (cl2 := 6) (sl2 := 228) rfl rfl rfl ?_
  refine n_dup dX3_init_43 rfl ?_
  refine n_iconst (v := 0) dX3_init_44 (by decide) ?_
  refine n_new dX3_init_45 coX3_20 zC_51 rfl ⟨by omega, by omega⟩ ?_
  refine n_cast (n2 := 52) (cl2 := 7) (sl2 := 230) rfl rfl rfl ?_
  refine n_dup dX3_init_48 rfl ?_
  refine n_call mX7_init (n1 := 54) (mc1 := 2) (ms1 := 602) [] (st := [.ref 51, .int 0, .ref 50, .ref 50, .ref 44]) dX3_init_49 siX3_22 ⟨Nat.le_of_ble_eq_true rfl, Nat.le_of_ble_eq_true rfl⟩ rfl rfl (Nat.le_of_ble_eq_true rfl) (Nat.succ_le_of_lt (lt_len zC_51)) rfl ⟨by omega, by omega⟩ (knX7_init 51 pC_51 s5) (fun s6 => ?_)
  refine n_cast (n2 := 54) (cl2 := 9) (sl2 := 832) rfl rfl rfl ?_
  refine n_aast (t0 := 6) (j := 0) dX3_init_52 (by omega) zC_50 (by omega) zC_51 rfl (fun _ => rfl) (by decide) (by decide) rfl ?_
  refine q_nmN (fun s7 => ?_)
  refine n_dup dX3_init_53 rfl ?_
  refine n_iconst (v := 1) dX3_init_54 (by decide) ?_
  refine n_new dX3_init_55 coX3_20 zC_54 rfl ⟨by omega, by omega⟩ ?_
  refine n_cast (n2 := 55) (cl2 := 10) (sl2 := 834) rfl rfl rfl ?_
  refine n_dup dX3_init_58 rfl ?_
  refine n_call mX7_init (n1 := 57) (mc1 := 2) (ms1 := 602) [] (st := [.ref 54, .int 1, .ref 50, .ref 50, .ref 44]) dX3_init_59 siX3_22 ⟨Nat.le_of_ble_eq_true rfl, Nat.le_of_ble_eq_true rfl⟩ rfl rfl (Nat.le_of_ble_eq_true rfl) (Nat.succ_le_of_lt (lt_len zC_54)) rfl ⟨by omega, by omega⟩ (knX7_init 54 pC_54 s7) (fun s8 => ?_)
  refine n_cast (n2 := 57) (cl2 := 12) (sl2 := 1436) rfl rfl rfl ?_
  refine n_aast (t0 := 6) (j := 1) dX3_init_62 (by omega) zC_50 (by omega) zC_54 rfl (fun _ => rfl) (by decide) (by decide) rfl ?_
  refine q_nmN (fun s9 => ?_)
  refine n_putr (t := 50) dX3_init_63 fpX3_23 rfl fnX3_X3_2 (by first | exact Or.inl ⟨_, rfl⟩ | exact Or.inr ⟨_, rfl⟩) (by omega) zC_44 rfl ?_
  refine q_nmN (fun s10 => ?_)
  refine n_aload_n (i := 0) (x := 44) dX3_init_66 rfl 0 rfl ?_
  refine n_new dX3_init_67 coX3_20 zC_57 rfl ⟨by omega, by omega⟩ ?_
  refine n_cast (n2 := 58) (cl2 := 13) (sl2 := 1438) rfl rfl rfl ?_
  refine n_dup dX3_init_70 rfl ?_
  refine n_call mX7_init (n1 := 60) (mc1 := 2) (ms1 := 602) [] (st := [.ref 57, .ref 44]) dX3_init_71 siX3_22 ⟨Nat.le_of_ble_eq_true rfl, Nat.le_of_ble_eq_true rfl⟩ rfl rfl (Nat.le_of_ble_eq_true rfl) (Nat.succ_le_of_lt (lt_len zC_57)) rfl ⟨by omega, by omega⟩ (knX7_init 57 pC_57 s10) (fun s11 => ?_)
  refine n_cast (n2 := 60) (cl2 := 15) (sl2 := 2040) rfl rfl rfl ?_
  refine n_putr (t := 57) dX3_init_74 fpX3_27 rfl fnX3_X3_3 (by first | exact Or.inl ⟨_, rfl⟩ | exact Or.inr ⟨_, rfl⟩) (by omega) zC_44 rfl ?_
  refine q_nmN (fun s12 => ?_)
  refine n_aload_n (i := 0) (x := 44) dX3_init_77 rfl 0 rfl ?_
  refine n_sipush (v := 201) dX3_init_78 (by decide) ?_
  refine n_newa (ty := .int) (t0 := 0) (N := 201) dX3_init_81 rfl ac_int (fun _ => rfl) (fun _ h => by cases h) zC_60 (by decide) (by decide) (fun _ _ => cB_int) ⟨by omega, by omega⟩ ?_
  refine n_cast (n2 := 61) (cl2 := 16) (sl2 := 2241) rfl rfl rfl ?_
  refine n_putr (t := 60) dX3_init_83 fpX3_31 rfl fnX3_X3_4 (by first | exact Or.inl ⟨_, rfl⟩ | exact Or.inr ⟨_, rfl⟩) (by omega) zC_44 rfl ?_
  refine q_nmN (fun s13 => ?_)
  refine n_aload_n (i := 0) (x := 44) dX3_init_86 rfl 0 rfl ?_
  refine n_sipush (v := 1568) dX3_init_87 (by decide) ?_
  refine n_newa (ty := .int) (t0 := 0) (N := 1568) dX3_init_90 rfl ac_int (fun _ => rfl) (fun _ h => by cases h) zC_61 (by decide) (by decide) (fun _ _ => cB_int) ⟨by omega, by omega⟩ ?_
  refine n_cast (n2 := 62) (cl2 := 17) (sl2 := 3809) rfl rfl rfl ?_
  refine n_putr (t := 61) dX3_init_92 fpX3_35 rfl fnX3_X3_5 (by first | exact Or.inl ⟨_, rfl⟩ | exact Or.inr ⟨_, rfl⟩) (by omega) zC_44 rfl ?_
  refine q_nmN (fun s14 => ?_)
  refine n_aload_n (i := 0) (x := 44) dX3_init_95 rfl 0 rfl ?_
  refine n_new dX3_init_96 coX3_38 zC_62 rfl ⟨by omega, by omega⟩ ?_
  refine n_cast (n2 := 63) (cl2 := 18) (sl2 := 3813) rfl rfl rfl ?_
  refine n_dup dX3_init_99 rfl ?_
  refine n_call mX0_init (n1 := 63) (mc1 := 0) (ms1 := 0) [] (st := [.ref 62, .ref 44]) dX3_init_100 siX3_40 ⟨Nat.le_of_ble_eq_true rfl, Nat.le_of_ble_eq_true rfl⟩ rfl rfl (Nat.le_of_ble_eq_true rfl) (Nat.succ_le_of_lt (lt_len zC_62)) rfl ⟨by omega, by omega⟩ (knX0_init s14) (fun s15 => ?_)
  refine n_cast (n2 := 63) (cl2 := 18) (sl2 := 3813) rfl rfl rfl ?_
  refine n_putr (t := 62) dX3_init_103 fpX3_41 rfl fnX3_X3_6 (by first | exact Or.inl ⟨_, rfl⟩ | exact Or.inr ⟨_, rfl⟩) (by omega) zC_44 rfl ?_
  refine q_nmN (fun s16 => ?_)
  refine n_aload_n (i := 0) (x := 44) dX3_init_106 rfl 0 rfl ?_
  refine n_bipush (v := 7) dX3_init_107 (by decide) ?_
  refine n_newa (ty := .int) (t0 := 0) (N := 7) dX3_init_109 rfl ac_int (fun _ => rfl) (fun _ h => by cases h) zC_63 (by decide) (by decide) (fun _ _ => cB_int) ⟨by omega, by omega⟩ ?_
  refine n_cast (n2 := 64) (cl2 := 19) (sl2 := 3820) rfl rfl rfl ?_
  refine n_putr (t := 63) dX3_init_111 fpX3_45 rfl fnX3_X3_7 (by first | exact Or.inl ⟨_, rfl⟩ | exact Or.inr ⟨_, rfl⟩) (by omega) zC_44 rfl ?_
  refine q_nmN (fun s17 => ?_)
  refine n_aload_n (i := 0) (x := 44) dX3_init_114 rfl 0 rfl ?_
  refine n_bipush (v := 7) dX3_init_115 (by decide) ?_
  refine n_newa (ty := .int) (t0 := 0) (N := 7) dX3_init_117 rfl ac_int (fun _ => rfl) (fun _ h => by cases h) zC_64 (by decide) (by decide) (fun _ _ => cB_int) ⟨by omega, by omega⟩ ?_
  refine n_cast (n2 := 65) (cl2 := 20) (sl2 := 3827) rfl rfl rfl ?_
  refine n_putr (t := 64) dX3_init_119 fpX3_48 rfl fnX3_X3_8 (by first | exact Or.inl ⟨_, rfl⟩ | exact Or.inr ⟨_, rfl⟩) (by omega) zC_44 rfl ?_
  refine q_nmN (fun s18 => ?_)
  refine n_aload_n (i := 0) (x := 44) dX3_init_122 rfl 0 rfl ?_
  refine n_bipush (v := 7) dX3_init_123 (by decide) ?_
  refine n_newa (ty := .int) (t0 := 0) (N := 7) dX3_init_125 rfl ac_int (fun _ => rfl) (fun _ h => by cases h) zC_65 (by decide) (by decide) (fun _ _ => cB_int) ⟨by omega, by omega⟩ ?_
  refine n_cast (n2 := 66) (cl2 := 21) (sl2 := 3834) rfl rfl rfl ?_
  refine n_putr (t := 65) dX3_init_127 fpX3_51 rfl fnX3_X3_9 (by first | exact Or.inl ⟨_, rfl⟩ | exact Or.inr ⟨_, rfl⟩) (by omega) zC_44 rfl ?_
  refine q_nmN (fun s19 => ?_)
  refine n_aload_n (i := 0) (x := 44) dX3_init_130 rfl 0 rfl ?_
  refine n_bipush (v := 81) dX3_init_131 (by decide) ?_
  refine n_newa (ty := .int) (t0 := 0) (N := 81) dX3_init_133 rfl ac_int (fun _ => rfl) (fun _ h => by cases h) zC_66 (by decide) (by decide) (fun _ _ => cB_int) ⟨by omega, by omega⟩ ?_
  refine n_cast (n2 := 67) (cl2 := 22) (sl2 := 3915) rfl rfl rfl ?_
  refine n_putr (t := 66) dX3_init_135 fpX3_54 rfl fnX3_X3_10 (by first | exact Or.inl ⟨_, rfl⟩ | exact Or.inr ⟨_, rfl⟩) (by omega) zC_44 rfl ?_
  refine q_nmN (fun s20 => ?_)
  refine n_aload_n (i := 0) (x := 44) dX3_init_138 rfl 0 rfl ?_
  refine n_bipush (v := 6) dX3_init_139 (by decide) ?_
  refine n_newa (ty := .int) (t0 := 0) (N := 6) dX3_init_141 rfl ac_int (fun _ => rfl) (fun _ h => by cases h) zC_67 (by decide) (by decide) (fun _ _ => cB_int) ⟨by omega, by omega⟩ ?_
  refine n_cast (n2 := 68) (cl2 := 23) (sl2 := 3921) rfl rfl rfl ?_
  refine n_putr (t := 67) dX3_init_143 fpX3_57 rfl fnX3_X3_11 (by first | exact Or.inl ⟨_, rfl⟩ | exact Or.inr ⟨_, rfl⟩) (by omega) zC_44 rfl ?_
  refine q_nmN (fun s21 => ?_)
  refine n_aload_n (i := 0) (x := 44) dX3_init_146 rfl 0 rfl ?_
  refine n_iconst (v := 0) dX3_init_147 (by decide) ?_
  refine n_puti dX3_init_148 fpX3_60 rfl fnX3_X3_12 (by omega) zC_44 rfl ?_
  refine q_nmN (fun s22 => ?_)
  refine n_aload_n (i := 0) (x := 44) dX3_init_151 rfl 0 rfl ?_
  refine n_iconst (v := 0) dX3_init_152 (by decide) ?_
  refine n_puti dX3_init_153 fpX3_64 rfl fnX3_X3_13 (by omega) zC_44 rfl ?_
  refine q_nmN (fun s23 => ?_)
  refine n_aload_n (i := 0) (x := 44) dX3_init_156 rfl 0 rfl ?_
  refine n_iconst (v := 0) dX3_init_157 (by decide) ?_
  refine n_puti dX3_init_158 fpX3_67 rfl fnX3_X3_14 (by omega) zC_44 rfl ?_
  refine q_nmN (fun s24 => ?_)
  refine n_aload_n (i := 0) (x := 44) dX3_init_161 rfl 0 rfl ?_
  refine n_iconst (v := 0) dX3_init_162 (by decide) ?_
  refine n_putz dX3_init_163 fpX3_70 rfl fnX3_X3_15 (by omega) zC_44 rfl (by decide) ?_
  refine q_nmN (fun s25 => ?_)
  refine n_aload_n (i := 0) (x := 44) dX3_init_166 rfl 0 rfl ?_
  refine n_iconst (v := 0) dX3_init_167 (by decide) ?_
  refine n_putz dX3_init_168 fpX3_74 rfl fnX3_X3_16 (by omega) zC_44 rfl (by decide) ?_
  refine q_nmN (fun s26 => ?_)
  refine n_aload_n (i := 0) (x := 44) dX3_init_171 rfl 0 rfl ?_
  refine n_iconst (v := 0) dX3_init_172 (by decide) ?_
  refine n_putz dX3_init_173 fpX3_77 rfl fnX3_X3_17 (by omega) zC_44 rfl (by decide) ?_
  refine q_nmN (fun s27 => ?_)
  refine n_aload_n (i := 0) (x := 44) dX3_init_176 rfl 0 rfl ?_
  refine n_aload_n (i := 1) (x := 1) dX3_init_177 rfl 1 rfl ?_
  refine n_putr (t := 1) dX3_init_178 fpX3_80 rfl fnX3_X3_0 (by first | exact Or.inl ⟨_, rfl⟩ | exact Or.inr ⟨_, rfl⟩) (by omega) zC_44 rfl ?_
  refine q_nmN (fun s28 => ?_)
  exact n_vret dX3_init_181 rfl
theorem knX3_init   (σ : qMem) : qMn wC mX3_init [.ref 44, .ref 1] 45 σ 68 23 3921 (fnX3_init  σ) := qMn_of moX3_init (Nat.le_of_ble_eq_true rfl) (anX3_init   σ)

theorem dX9_init_0 : decode cX9_init 0 = .ok (.aload_n 0, 1) := by decide +kernel
theorem dX9_init_1 : decode cX9_init 1 = .ok (.invokespecial 3, 3) := by decide +kernel
theorem dX9_init_4 : decode cX9_init 4 = .ok (.aload_n 0, 1) := by decide +kernel
theorem dX9_init_5 : decode cX9_init 5 = .ok (.bipush 42, 2) := by decide +kernel
theorem dX9_init_7 : decode cX9_init 7 = .ok (.newarray .int, 2) := by decide +kernel
theorem dX9_init_9 : decode cX9_init 9 = .ok (.putfield 11, 3) := by decide +kernel
theorem dX9_init_12 : decode cX9_init 12 = .ok (.aload_n 0, 1) := by decide +kernel
theorem dX9_init_13 : decode cX9_init 13 = .ok (.bipush 42, 2) := by decide +kernel
theorem dX9_init_15 : decode cX9_init 15 = .ok (.newarray .int, 2) := by decide +kernel
theorem dX9_init_17 : decode cX9_init 17 = .ok (.putfield 15, 3) := by decide +kernel
theorem dX9_init_20 : decode cX9_init 20 = .ok (.aload_n 0, 1) := by decide +kernel
theorem dX9_init_21 : decode cX9_init 21 = .ok (.bipush 42, 2) := by decide +kernel
theorem dX9_init_23 : decode cX9_init 23 = .ok (.newarray .int, 2) := by decide +kernel
theorem dX9_init_25 : decode cX9_init 25 = .ok (.putfield 18, 3) := by decide +kernel
theorem dX9_init_28 : decode cX9_init 28 = .ok (.aload_n 0, 1) := by decide +kernel
theorem dX9_init_29 : decode cX9_init 29 = .ok (.bipush 64, 2) := by decide +kernel
theorem dX9_init_31 : decode cX9_init 31 = .ok (.newarray .int, 2) := by decide +kernel
theorem dX9_init_33 : decode cX9_init 33 = .ok (.putfield 21, 3) := by decide +kernel
theorem dX9_init_36 : decode cX9_init 36 = .ok (.aload_n 0, 1) := by decide +kernel
theorem dX9_init_37 : decode cX9_init 37 = .ok (.iconst 0, 1) := by decide +kernel
theorem dX9_init_38 : decode cX9_init 38 = .ok (.putfield 24, 3) := by decide +kernel
theorem dX9_init_41 : decode cX9_init 41 = .ok (.aload_n 0, 1) := by decide +kernel
theorem dX9_init_42 : decode cX9_init 42 = .ok (.iconst 0, 1) := by decide +kernel
theorem dX9_init_43 : decode cX9_init 43 = .ok (.putfield 28, 3) := by decide +kernel
theorem dX9_init_46 : decode cX9_init 46 = .ok (.aload_n 0, 1) := by decide +kernel
theorem dX9_init_47 : decode cX9_init 47 = .ok (.iconst 0, 1) := by decide +kernel
theorem dX9_init_48 : decode cX9_init 48 = .ok (.putfield 31, 3) := by decide +kernel
theorem dX9_init_51 : decode cX9_init 51 = .ok (.aload_n 0, 1) := by decide +kernel
theorem dX9_init_52 : decode cX9_init 52 = .ok (.aload_n 1, 1) := by decide +kernel
theorem dX9_init_53 : decode cX9_init 53 = .ok (.putfield 35, 3) := by decide +kernel
theorem dX9_init_56 : decode cX9_init 56 = .ok (.aload_n 0, 1) := by decide +kernel
theorem dX9_init_57 : decode cX9_init 57 = .ok (.aload_n 2, 1) := by decide +kernel
theorem dX9_init_58 : decode cX9_init 58 = .ok (.putfield 39, 3) := by decide +kernel
theorem dX9_init_61 : decode cX9_init 61 = .ok (.return_, 1) := by decide +kernel
set_option maxRecDepth 20000 in
set_option maxHeartbeats 4000000 in
def fnX9_init  (σ : qMem) : Option qMem :=
  (if ckN 42 42 = true then (nmM (si σ 68 2 1) fun s1 => (if ckN 42 42 = true then (nmM (si s1 68 3 1) fun s2 => (if ckN 42 42 = true then (nmM (si s2 68 4 1) fun s3 => (if ckN 64 64 = true then (nmM (si s3 68 5 1) fun s4 => (nmM (si s4 68 6 0) fun s5 => (nmM (si s5 68 7 0) fun s6 => (nmM (si s6 68 8 0) fun s7 => (nmM (si s7 68 0 1) fun s8 => (nmM (si s8 68 1 1) fun s9 => (some s9))))))) else none)) else none)) else none)) else none)
set_option maxRecDepth 20000 in
set_option maxHeartbeats 4000000 in
theorem anX9_init   (σ : qMem) : qAn wC mX9_init 0 [(0, .ref 68), (1, .ref 1), (2, .ref 44)] [] 69 σ 0 0 73 4 190 (fnX9_init  σ) := by
  unfold fnX9_init
  refine n_aload_n (i := 0) (x := 68) dX9_init_0 rfl 0 rfl ?_
  refine n_obj dX9_init_1 (g_2 88 (by decide +kernel) rfl) ob_in ob_co ⟨Nat.le_of_ble_eq_true rfl, Nat.le_of_ble_eq_true rfl⟩ ?_
  refine n_aload_n (i := 0) (x := 68) dX9_init_4 rfl 0 rfl ?_
  refine n_bipush (v := 42) dX9_init_5 (by decide) ?_
  refine n_newa (ty := .int) (t0 := 0) (N := 42) dX9_init_7 rfl ac_int (fun _ => rfl) (fun _ h => by cases h) zC_69 (by decide) (by decide) (fun _ _ => cB_int) ⟨by omega, by omega⟩ ?_
  refine n_cast (n2 := 70) (cl2 := 1) (sl2 := 42) rfl rfl rfl ?_
  refine n_putr (t := 69) dX9_init_9 fpX9_11 rfl fnX9_X9_2 (by first | exact Or.inl ⟨_, rfl⟩ | exact Or.inr ⟨_, rfl⟩) (by omega) zC_68 rfl ?_
  refine q_nmN (fun s1 => ?_)
  refine n_aload_n (i := 0) (x := 68) dX9_init_12 rfl 0 rfl ?_
  refine n_bipush (v := 42) dX9_init_13 (by decide) ?_
  refine n_newa (ty := .int) (t0 := 0) (N := 42) dX9_init_15 rfl ac_int (fun _ => rfl) (fun _ h => by cases h) zC_70 (by decide) (by decide) (fun _ _ => cB_int) ⟨by omega, by omega⟩ ?_
  refine n_cast (n2 := 71) (cl2 := 2) (sl2 := 84) rfl rfl rfl ?_
  refine n_putr (t := 70) dX9_init_17 fpX9_15 rfl fnX9_X9_3 (by first | exact Or.inl ⟨_, rfl⟩ | exact Or.inr ⟨_, rfl⟩) (by omega) zC_68 rfl ?_
  refine q_nmN (fun s2 => ?_)
  refine n_aload_n (i := 0) (x := 68) dX9_init_20 rfl 0 rfl ?_
  refine n_bipush (v := 42) dX9_init_21 (by decide) ?_
  refine n_newa (ty := .int) (t0 := 0) (N := 42) dX9_init_23 rfl ac_int (fun _ => rfl) (fun _ h => by cases h) zC_71 (by decide) (by decide) (fun _ _ => cB_int) ⟨by omega, by omega⟩ ?_
  refine n_cast (n2 := 72) (cl2 := 3) (sl2 := 126) rfl rfl rfl ?_
  refine n_putr (t := 71) dX9_init_25 fpX9_18 rfl fnX9_X9_4 (by first | exact Or.inl ⟨_, rfl⟩ | exact Or.inr ⟨_, rfl⟩) (by omega) zC_68 rfl ?_
  refine q_nmN (fun s3 => ?_)
  refine n_aload_n (i := 0) (x := 68) dX9_init_28 rfl 0 rfl ?_
  refine n_bipush (v := 64) dX9_init_29 (by decide) ?_
  refine n_newa (ty := .int) (t0 := 0) (N := 64) dX9_init_31 rfl ac_int (fun _ => rfl) (fun _ h => by cases h) zC_72 (by decide) (by decide) (fun _ _ => cB_int) ⟨by omega, by omega⟩ ?_
  refine n_cast (n2 := 73) (cl2 := 4) (sl2 := 190) rfl rfl rfl ?_
  refine n_putr (t := 72) dX9_init_33 fpX9_21 rfl fnX9_X9_5 (by first | exact Or.inl ⟨_, rfl⟩ | exact Or.inr ⟨_, rfl⟩) (by omega) zC_68 rfl ?_
  refine q_nmN (fun s4 => ?_)
  refine n_aload_n (i := 0) (x := 68) dX9_init_36 rfl 0 rfl ?_
  refine n_iconst (v := 0) dX9_init_37 (by decide) ?_
  refine n_puti dX9_init_38 fpX9_24 rfl fnX9_X9_6 (by omega) zC_68 rfl ?_
  refine q_nmN (fun s5 => ?_)
  refine n_aload_n (i := 0) (x := 68) dX9_init_41 rfl 0 rfl ?_
  refine n_iconst (v := 0) dX9_init_42 (by decide) ?_
  refine n_puti dX9_init_43 fpX9_28 rfl fnX9_X9_7 (by omega) zC_68 rfl ?_
  refine q_nmN (fun s6 => ?_)
  refine n_aload_n (i := 0) (x := 68) dX9_init_46 rfl 0 rfl ?_
  refine n_iconst (v := 0) dX9_init_47 (by decide) ?_
  refine n_putz dX9_init_48 fpX9_31 rfl fnX9_X9_8 (by omega) zC_68 rfl (by decide) ?_
  refine q_nmN (fun s7 => ?_)
  refine n_aload_n (i := 0) (x := 68) dX9_init_51 rfl 0 rfl ?_
  refine n_aload_n (i := 1) (x := 1) dX9_init_52 rfl 1 rfl ?_
  refine n_putr (t := 1) dX9_init_53 fpX9_35 rfl fnX9_X9_0 (by first | exact Or.inl ⟨_, rfl⟩ | exact Or.inr ⟨_, rfl⟩) (by omega) zC_68 rfl ?_
  refine q_nmN (fun s8 => ?_)
  refine n_aload_n (i := 0) (x := 68) dX9_init_56 rfl 0 rfl ?_
  refine n_aload_n (i := 2) (x := 44) dX9_init_57 rfl 2 rfl ?_
  refine n_putr (t := 44) dX9_init_58 fpX9_39 rfl fnX9_X9_1 (by first | exact Or.inl ⟨_, rfl⟩ | exact Or.inr ⟨_, rfl⟩) (by omega) zC_68 rfl ?_
  refine q_nmN (fun s9 => ?_)
  exact n_vret dX9_init_61 rfl
theorem knX9_init   (σ : qMem) : qMn wC mX9_init [.ref 68, .ref 1, .ref 44] 69 σ 73 4 190 (fnX9_init  σ) := qMn_of moX9_init (Nat.le_of_ble_eq_true rfl) (anX9_init   σ)

theorem dX4_init_0 : decode cX4_init 0 = .ok (.aload_n 0, 1) := by decide +kernel
theorem dX4_init_1 : decode cX4_init 1 = .ok (.invokespecial 3, 3) := by decide +kernel
theorem dX4_init_4 : decode cX4_init 4 = .ok (.aload_n 0, 1) := by decide +kernel
theorem dX4_init_5 : decode cX4_init 5 = .ok (.bipush 24, 2) := by decide +kernel
theorem dX4_init_7 : decode cX4_init 7 = .ok (.newarray .int, 2) := by decide +kernel
theorem dX4_init_9 : decode cX4_init 9 = .ok (.putfield 9, 3) := by decide +kernel
theorem dX4_init_12 : decode cX4_init 12 = .ok (.aload_n 0, 1) := by decide +kernel
theorem dX4_init_13 : decode cX4_init 13 = .ok (.bipush 24, 2) := by decide +kernel
theorem dX4_init_15 : decode cX4_init 15 = .ok (.newarray .int, 2) := by decide +kernel
theorem dX4_init_17 : decode cX4_init 17 = .ok (.putfield 15, 3) := by decide +kernel
theorem dX4_init_20 : decode cX4_init 20 = .ok (.aload_n 0, 1) := by decide +kernel
theorem dX4_init_21 : decode cX4_init 21 = .ok (.bipush 24, 2) := by decide +kernel
theorem dX4_init_23 : decode cX4_init 23 = .ok (.newarray .int, 2) := by decide +kernel
theorem dX4_init_25 : decode cX4_init 25 = .ok (.putfield 18, 3) := by decide +kernel
theorem dX4_init_28 : decode cX4_init 28 = .ok (.aload_n 0, 1) := by decide +kernel
theorem dX4_init_29 : decode cX4_init 29 = .ok (.iconst 0, 1) := by decide +kernel
theorem dX4_init_30 : decode cX4_init 30 = .ok (.putfield 21, 3) := by decide +kernel
theorem dX4_init_33 : decode cX4_init 33 = .ok (.aload_n 0, 1) := by decide +kernel
theorem dX4_init_34 : decode cX4_init 34 = .ok (.iconst 0, 1) := by decide +kernel
theorem dX4_init_35 : decode cX4_init 35 = .ok (.putfield 25, 3) := by decide +kernel
theorem dX4_init_38 : decode cX4_init 38 = .ok (.aload_n 0, 1) := by decide +kernel
theorem dX4_init_39 : decode cX4_init 39 = .ok (.iconst 0, 1) := by decide +kernel
theorem dX4_init_40 : decode cX4_init 40 = .ok (.putfield 28, 3) := by decide +kernel
theorem dX4_init_43 : decode cX4_init 43 = .ok (.aload_n 0, 1) := by decide +kernel
theorem dX4_init_44 : decode cX4_init 44 = .ok (.aload_n 1, 1) := by decide +kernel
theorem dX4_init_45 : decode cX4_init 45 = .ok (.putfield 31, 3) := by decide +kernel
theorem dX4_init_48 : decode cX4_init 48 = .ok (.return_, 1) := by decide +kernel
set_option maxRecDepth 20000 in
set_option maxHeartbeats 4000000 in
def fnX4_init  (σ : qMem) : Option qMem :=
  (if ckN 24 24 = true then (nmM (si σ 73 1 1) fun s1 => (if ckN 24 24 = true then (nmM (si s1 73 2 1) fun s2 => (if ckN 24 24 = true then (nmM (si s2 73 3 1) fun s3 => (nmM (si s3 73 4 0) fun s4 => (nmM (si s4 73 5 0) fun s5 => (nmM (si s5 73 6 0) fun s6 => (nmM (si s6 73 0 1) fun s7 => (some s7)))))) else none)) else none)) else none)
set_option maxRecDepth 20000 in
set_option maxHeartbeats 4000000 in
theorem anX4_init   (σ : qMem) : qAn wC mX4_init 0 [(0, .ref 73), (1, .ref 1)] [] 74 σ 0 0 77 3 72 (fnX4_init  σ) := by
  unfold fnX4_init
  refine n_aload_n (i := 0) (x := 73) dX4_init_0 rfl 0 rfl ?_
  refine n_obj dX4_init_1 (g_2 124 (by decide +kernel) rfl) ob_in ob_co ⟨Nat.le_of_ble_eq_true rfl, Nat.le_of_ble_eq_true rfl⟩ ?_
  refine n_aload_n (i := 0) (x := 73) dX4_init_4 rfl 0 rfl ?_
  refine n_bipush (v := 24) dX4_init_5 (by decide) ?_
  refine n_newa (ty := .int) (t0 := 0) (N := 24) dX4_init_7 rfl ac_int (fun _ => rfl) (fun _ h => by cases h) zC_74 (by decide) (by decide) (fun _ _ => cB_int) ⟨by omega, by omega⟩ ?_
  refine n_cast (n2 := 75) (cl2 := 1) (sl2 := 24) rfl rfl rfl ?_
  refine n_putr (t := 74) dX4_init_9 fpX4_9 rfl fnX4_X4_1 (by first | exact Or.inl ⟨_, rfl⟩ | exact Or.inr ⟨_, rfl⟩) (by omega) zC_73 rfl ?_
  refine q_nmN (fun s1 => ?_)
  refine n_aload_n (i := 0) (x := 73) dX4_init_12 rfl 0 rfl ?_
  refine n_bipush (v := 24) dX4_init_13 (by decide) ?_
  refine n_newa (ty := .int) (t0 := 0) (N := 24) dX4_init_15 rfl ac_int (fun _ => rfl) (fun _ h => by cases h) zC_75 (by decide) (by decide) (fun _ _ => cB_int) ⟨by omega, by omega⟩ ?_
  refine n_cast (n2 := 76) (cl2 := 2) (sl2 := 48) rfl rfl rfl ?_
  refine n_putr (t := 75) dX4_init_17 fpX4_15 rfl fnX4_X4_2 (by first | exact Or.inl ⟨_, rfl⟩ | exact Or.inr ⟨_, rfl⟩) (by omega) zC_73 rfl ?_
  refine q_nmN (fun s2 => ?_)
  refine n_aload_n (i := 0) (x := 73) dX4_init_20 rfl 0 rfl ?_
  refine n_bipush (v := 24) dX4_init_21 (by decide) ?_
  refine n_newa (ty := .int) (t0 := 0) (N := 24) dX4_init_23 rfl ac_int (fun _ => rfl) (fun _ h => by cases h) zC_76 (by decide) (by decide) (fun _ _ => cB_int) ⟨by omega, by omega⟩ ?_
  refine n_cast (n2 := 77) (cl2 := 3) (sl2 := 72) rfl rfl rfl ?_
  refine n_putr (t := 76) dX4_init_25 fpX4_18 rfl fnX4_X4_3 (by first | exact Or.inl ⟨_, rfl⟩ | exact Or.inr ⟨_, rfl⟩) (by omega) zC_73 rfl ?_
  refine q_nmN (fun s3 => ?_)
  refine n_aload_n (i := 0) (x := 73) dX4_init_28 rfl 0 rfl ?_
  refine n_iconst (v := 0) dX4_init_29 (by decide) ?_
  refine n_puti dX4_init_30 fpX4_21 rfl fnX4_X4_4 (by omega) zC_73 rfl ?_
  refine q_nmN (fun s4 => ?_)
  refine n_aload_n (i := 0) (x := 73) dX4_init_33 rfl 0 rfl ?_
  refine n_iconst (v := 0) dX4_init_34 (by decide) ?_
  refine n_puti dX4_init_35 fpX4_25 rfl fnX4_X4_5 (by omega) zC_73 rfl ?_
  refine q_nmN (fun s5 => ?_)
  refine n_aload_n (i := 0) (x := 73) dX4_init_38 rfl 0 rfl ?_
  refine n_iconst (v := 0) dX4_init_39 (by decide) ?_
  refine n_puti dX4_init_40 fpX4_28 rfl fnX4_X4_6 (by omega) zC_73 rfl ?_
  refine q_nmN (fun s6 => ?_)
  refine n_aload_n (i := 0) (x := 73) dX4_init_43 rfl 0 rfl ?_
  refine n_aload_n (i := 1) (x := 1) dX4_init_44 rfl 1 rfl ?_
  refine n_putr (t := 1) dX4_init_45 fpX4_31 rfl fnX4_X4_0 (by first | exact Or.inl ⟨_, rfl⟩ | exact Or.inr ⟨_, rfl⟩) (by omega) zC_73 rfl ?_
  refine q_nmN (fun s7 => ?_)
  exact n_vret dX4_init_48 rfl
theorem knX4_init   (σ : qMem) : qMn wC mX4_init [.ref 73, .ref 1] 74 σ 77 3 72 (fnX4_init  σ) := qMn_of moX4_init (Nat.le_of_ble_eq_true rfl) (anX4_init   σ)

theorem dX6_init_0 : decode cX6_init 0 = .ok (.aload_n 0, 1) := by decide +kernel
theorem dX6_init_1 : decode cX6_init 1 = .ok (.invokespecial 3, 3) := by decide +kernel
theorem dX6_init_4 : decode cX6_init 4 = .ok (.aload_n 0, 1) := by decide +kernel
theorem dX6_init_5 : decode cX6_init 5 = .ok (.new 9, 3) := by decide +kernel
theorem dX6_init_8 : decode cX6_init 8 = .ok (.dup, 1) := by decide +kernel
theorem dX6_init_9 : decode cX6_init 9 = .ok (.invokespecial 11, 3) := by decide +kernel
theorem dX6_init_12 : decode cX6_init 12 = .ok (.putfield 12, 3) := by decide +kernel
theorem dX6_init_15 : decode cX6_init 15 = .ok (.aload_n 0, 1) := by decide +kernel
theorem dX6_init_16 : decode cX6_init 16 = .ok (.iconst 0, 1) := by decide +kernel
theorem dX6_init_17 : decode cX6_init 17 = .ok (.newarray .int, 2) := by decide +kernel
theorem dX6_init_19 : decode cX6_init 19 = .ok (.putfield 18, 3) := by decide +kernel
theorem dX6_init_22 : decode cX6_init 22 = .ok (.aload_n 0, 1) := by decide +kernel
theorem dX6_init_23 : decode cX6_init 23 = .ok (.iconst 0, 1) := by decide +kernel
theorem dX6_init_24 : decode cX6_init 24 = .ok (.putfield 22, 3) := by decide +kernel
theorem dX6_init_27 : decode cX6_init 27 = .ok (.aload_n 0, 1) := by decide +kernel
theorem dX6_init_28 : decode cX6_init 28 = .ok (.iconst 3, 1) := by decide +kernel
theorem dX6_init_29 : decode cX6_init 29 = .ok (.putfield 26, 3) := by decide +kernel
theorem dX6_init_32 : decode cX6_init 32 = .ok (.aload_n 0, 1) := by decide +kernel
theorem dX6_init_33 : decode cX6_init 33 = .ok (.iconst 0, 1) := by decide +kernel
theorem dX6_init_34 : decode cX6_init 34 = .ok (.putfield 29, 3) := by decide +kernel
theorem dX6_init_37 : decode cX6_init 37 = .ok (.aload_n 0, 1) := by decide +kernel
theorem dX6_init_38 : decode cX6_init 38 = .ok (.iconst 0, 1) := by decide +kernel
theorem dX6_init_39 : decode cX6_init 39 = .ok (.putfield 32, 3) := by decide +kernel
theorem dX6_init_42 : decode cX6_init 42 = .ok (.aload_n 0, 1) := by decide +kernel
theorem dX6_init_43 : decode cX6_init 43 = .ok (.iconst 0, 1) := by decide +kernel
theorem dX6_init_44 : decode cX6_init 44 = .ok (.putfield 35, 3) := by decide +kernel
theorem dX6_init_47 : decode cX6_init 47 = .ok (.return_, 1) := by decide +kernel
set_option maxRecDepth 20000 in
set_option maxHeartbeats 4000000 in
def fnX6_init  (σ : qMem) : Option qMem :=
  ((fnX5_init 78 σ).bind fun s1 => (nmM (si s1 77 0 1) fun s2 => (if ckN 0 0 = true then (nmM (si s2 77 1 85) fun s3 => (nmM (si s3 77 2 0) fun s4 => (nmM (si s4 77 3 3) fun s5 => (nmM (si s5 77 4 0) fun s6 => (nmM (si s6 77 5 0) fun s7 => (nmM (si s7 77 6 0) fun s8 => (some s8))))))) else none)))
set_option maxRecDepth 20000 in
set_option maxHeartbeats 4000000 in
theorem anX6_init   (σ : qMem) : qAn wC mX6_init 0 [(0, .ref 77)] [] 78 σ 0 0 86 8 988 (fnX6_init  σ) := by
  unfold fnX6_init
  refine n_aload_n (i := 0) (x := 77) dX6_init_0 rfl 0 rfl ?_
  refine n_obj dX6_init_1 (g_2 154 (by decide +kernel) rfl) ob_in ob_co ⟨Nat.le_of_ble_eq_true rfl, Nat.le_of_ble_eq_true rfl⟩ ?_
  refine n_aload_n (i := 0) (x := 77) dX6_init_4 rfl 0 rfl ?_
  refine n_new dX6_init_5 coX6_9 zC_78 rfl ⟨by omega, by omega⟩ ?_
  refine n_cast (n2 := 79) (cl2 := 1) (sl2 := 7) rfl rfl rfl ?_
  refine n_dup dX6_init_8 rfl ?_
  refine n_call mX5_init (n1 := 85) (mc1 := 6) (ms1 := 981) [] (st := [.ref 78, .ref 77]) dX6_init_9 siX6_11 ⟨Nat.le_of_ble_eq_true rfl, Nat.le_of_ble_eq_true rfl⟩ rfl rfl (Nat.le_of_ble_eq_true rfl) (Nat.succ_le_of_lt (lt_len zC_78)) rfl ⟨by omega, by omega⟩ (knX5_init 78 pC_78 σ) (fun s1 => ?_)
  refine n_cast (n2 := 85) (cl2 := 7) (sl2 := 988) rfl rfl rfl ?_
  refine n_putr (t := 78) dX6_init_12 fpX6_12 rfl fnX6_X6_0 (by first | exact Or.inl ⟨_, rfl⟩ | exact Or.inr ⟨_, rfl⟩) (by omega) zC_77 rfl ?_
  refine q_nmN (fun s2 => ?_)
  refine n_aload_n (i := 0) (x := 77) dX6_init_15 rfl 0 rfl ?_
  refine n_iconst (v := 0) dX6_init_16 (by decide) ?_
  refine n_newa (ty := .int) (t0 := 0) (N := 0) dX6_init_17 rfl ac_int (fun _ => rfl) (fun _ h => by cases h) zC_85 (by decide) (by decide) (fun _ _ => cB_int) ⟨by omega, by omega⟩ ?_
  refine n_cast (n2 := 86) (cl2 := 8) (sl2 := 988) rfl rfl rfl ?_
  refine n_putd (x := 85) dX6_init_19 fpX6_18 rfl fnX6_X6_1 (by first | exact Or.inl ⟨_, rfl⟩ | exact Or.inr ⟨_, rfl⟩) (by omega) zC_77 rfl (by decide) ?_
  refine q_nmN (fun s3 => ?_)
  refine n_aload_n (i := 0) (x := 77) dX6_init_22 rfl 0 rfl ?_
  refine n_iconst (v := 0) dX6_init_23 (by decide) ?_
  refine n_puti dX6_init_24 fpX6_22 rfl fnX6_X6_2 (by omega) zC_77 rfl ?_
  refine q_nmN (fun s4 => ?_)
  refine n_aload_n (i := 0) (x := 77) dX6_init_27 rfl 0 rfl ?_
  refine n_iconst (v := 3) dX6_init_28 (by decide) ?_
  refine n_puti dX6_init_29 fpX6_26 rfl fnX6_X6_3 (by omega) zC_77 rfl ?_
  refine q_nmN (fun s5 => ?_)
  refine n_aload_n (i := 0) (x := 77) dX6_init_32 rfl 0 rfl ?_
  refine n_iconst (v := 0) dX6_init_33 (by decide) ?_
  refine n_puti dX6_init_34 fpX6_29 rfl fnX6_X6_4 (by omega) zC_77 rfl ?_
  refine q_nmN (fun s6 => ?_)
  refine n_aload_n (i := 0) (x := 77) dX6_init_37 rfl 0 rfl ?_
  refine n_iconst (v := 0) dX6_init_38 (by decide) ?_
  refine n_puti dX6_init_39 fpX6_32 rfl fnX6_X6_5 (by omega) zC_77 rfl ?_
  refine q_nmN (fun s7 => ?_)
  refine n_aload_n (i := 0) (x := 77) dX6_init_42 rfl 0 rfl ?_
  refine n_iconst (v := 0) dX6_init_43 (by decide) ?_
  refine n_puti dX6_init_44 fpX6_35 rfl fnX6_X6_6 (by omega) zC_77 rfl ?_
  refine q_nmN (fun s8 => ?_)
  exact n_vret dX6_init_47 rfl
theorem knX6_init   (σ : qMem) : qMn wC mX6_init [.ref 77] 78 σ 86 8 988 (fnX6_init  σ) := qMn_of moX6_init (Nat.le_of_ble_eq_true rfl) (anX6_init   σ)

theorem dX11_init_0 : decode cX11_init 0 = .ok (.aload_n 0, 1) := by decide +kernel
theorem dX11_init_1 : decode cX11_init 1 = .ok (.invokespecial 3, 3) := by decide +kernel
theorem dX11_init_4 : decode cX11_init 4 = .ok (.aload_n 0, 1) := by decide +kernel
theorem dX11_init_5 : decode cX11_init 5 = .ok (.new 9, 3) := by decide +kernel
theorem dX11_init_8 : decode cX11_init 8 = .ok (.dup, 1) := by decide +kernel
theorem dX11_init_9 : decode cX11_init 9 = .ok (.invokespecial 11, 3) := by decide +kernel
theorem dX11_init_12 : decode cX11_init 12 = .ok (.putfield 12, 3) := by decide +kernel
theorem dX11_init_15 : decode cX11_init 15 = .ok (.aload_n 0, 1) := by decide +kernel
theorem dX11_init_16 : decode cX11_init 16 = .ok (.iconst 2, 1) := by decide +kernel
theorem dX11_init_17 : decode cX11_init 17 = .ok (.anewarray 9, 3) := by decide +kernel
theorem dX11_init_20 : decode cX11_init 20 = .ok (.putfield 16, 3) := by decide +kernel
theorem dX11_init_23 : decode cX11_init 23 = .ok (.aload_n 0, 1) := by decide +kernel
theorem dX11_init_24 : decode cX11_init 24 = .ok (.iconst 2, 1) := by decide +kernel
theorem dX11_init_25 : decode cX11_init 25 = .ok (.newarray .boolean, 2) := by decide +kernel
theorem dX11_init_27 : decode cX11_init 27 = .ok (.putfield 20, 3) := by decide +kernel
theorem dX11_init_30 : decode cX11_init 30 = .ok (.aload_n 0, 1) := by decide +kernel
theorem dX11_init_31 : decode cX11_init 31 = .ok (.new 24, 3) := by decide +kernel
theorem dX11_init_34 : decode cX11_init 34 = .ok (.dup, 1) := by decide +kernel
theorem dX11_init_35 : decode cX11_init 35 = .ok (.aload_n 0, 1) := by decide +kernel
theorem dX11_init_36 : decode cX11_init 36 = .ok (.getfield 12, 3) := by decide +kernel
theorem dX11_init_39 : decode cX11_init 39 = .ok (.invokespecial 26, 3) := by decide +kernel
theorem dX11_init_42 : decode cX11_init 42 = .ok (.putfield 29, 3) := by decide +kernel
theorem dX11_init_45 : decode cX11_init 45 = .ok (.aload_n 0, 1) := by decide +kernel
theorem dX11_init_46 : decode cX11_init 46 = .ok (.new 33, 3) := by decide +kernel
theorem dX11_init_49 : decode cX11_init 49 = .ok (.dup, 1) := by decide +kernel
theorem dX11_init_50 : decode cX11_init 50 = .ok (.aload_n 0, 1) := by decide +kernel
theorem dX11_init_51 : decode cX11_init 51 = .ok (.getfield 12, 3) := by decide +kernel
theorem dX11_init_54 : decode cX11_init 54 = .ok (.aload_n 0, 1) := by decide +kernel
theorem dX11_init_55 : decode cX11_init 55 = .ok (.getfield 29, 3) := by decide +kernel
theorem dX11_init_58 : decode cX11_init 58 = .ok (.invokespecial 35, 3) := by decide +kernel
theorem dX11_init_61 : decode cX11_init 61 = .ok (.putfield 38, 3) := by decide +kernel
theorem dX11_init_64 : decode cX11_init 64 = .ok (.aload_n 0, 1) := by decide +kernel
theorem dX11_init_65 : decode cX11_init 65 = .ok (.new 42, 3) := by decide +kernel
theorem dX11_init_68 : decode cX11_init 68 = .ok (.dup, 1) := by decide +kernel
theorem dX11_init_69 : decode cX11_init 69 = .ok (.aload_n 0, 1) := by decide +kernel
theorem dX11_init_70 : decode cX11_init 70 = .ok (.getfield 12, 3) := by decide +kernel
theorem dX11_init_73 : decode cX11_init 73 = .ok (.invokespecial 44, 3) := by decide +kernel
theorem dX11_init_76 : decode cX11_init 76 = .ok (.putfield 45, 3) := by decide +kernel
theorem dX11_init_79 : decode cX11_init 79 = .ok (.aload_n 0, 1) := by decide +kernel
theorem dX11_init_80 : decode cX11_init 80 = .ok (.new 49, 3) := by decide +kernel
theorem dX11_init_83 : decode cX11_init 83 = .ok (.dup, 1) := by decide +kernel
theorem dX11_init_84 : decode cX11_init 84 = .ok (.invokespecial 51, 3) := by decide +kernel
theorem dX11_init_87 : decode cX11_init 87 = .ok (.putfield 52, 3) := by decide +kernel
theorem dX11_init_90 : decode cX11_init 90 = .ok (.aload_n 0, 1) := by decide +kernel
theorem dX11_init_91 : decode cX11_init 91 = .ok (.sipush 400, 3) := by decide +kernel
theorem dX11_init_94 : decode cX11_init 94 = .ok (.newarray .int, 2) := by decide +kernel
theorem dX11_init_96 : decode cX11_init 96 = .ok (.putfield 56, 3) := by decide +kernel
theorem dX11_init_99 : decode cX11_init 99 = .ok (.aload_n 0, 1) := by decide +kernel
theorem dX11_init_100 : decode cX11_init 100 = .ok (.iconst 5, 1) := by decide +kernel
theorem dX11_init_101 : decode cX11_init 101 = .ok (.newarray .int, 2) := by decide +kernel
theorem dX11_init_103 : decode cX11_init 103 = .ok (.putfield 60, 3) := by decide +kernel
theorem dX11_init_106 : decode cX11_init 106 = .ok (.aload_n 0, 1) := by decide +kernel
theorem dX11_init_107 : decode cX11_init 107 = .ok (.bipush 6, 2) := by decide +kernel
theorem dX11_init_109 : decode cX11_init 109 = .ok (.newarray .int, 2) := by decide +kernel
theorem dX11_init_111 : decode cX11_init 111 = .ok (.putfield 63, 3) := by decide +kernel
theorem dX11_init_114 : decode cX11_init 114 = .ok (.aload_n 0, 1) := by decide +kernel
theorem dX11_init_115 : decode cX11_init 115 = .ok (.iconst 0, 1) := by decide +kernel
theorem dX11_init_116 : decode cX11_init 116 = .ok (.putfield 66, 3) := by decide +kernel
theorem dX11_init_119 : decode cX11_init 119 = .ok (.aload_n 0, 1) := by decide +kernel
theorem dX11_init_120 : decode cX11_init 120 = .ok (.iconst (-1), 1) := by decide +kernel
theorem dX11_init_121 : decode cX11_init 121 = .ok (.putfield 70, 3) := by decide +kernel
theorem dX11_init_124 : decode cX11_init 124 = .ok (.aload_n 0, 1) := by decide +kernel
theorem dX11_init_125 : decode cX11_init 125 = .ok (.iconst 0, 1) := by decide +kernel
theorem dX11_init_126 : decode cX11_init 126 = .ok (.putfield 73, 3) := by decide +kernel
theorem dX11_init_129 : decode cX11_init 129 = .ok (.aload_n 0, 1) := by decide +kernel
theorem dX11_init_130 : decode cX11_init 130 = .ok (.iconst 0, 1) := by decide +kernel
theorem dX11_init_131 : decode cX11_init 131 = .ok (.putfield 76, 3) := by decide +kernel
theorem dX11_init_134 : decode cX11_init 134 = .ok (.iconst 0, 1) := by decide +kernel
theorem dX11_init_135 : decode cX11_init 135 = .ok (.istore_n 1, 1) := by decide +kernel
theorem dX11_init_136 : decode cX11_init 136 = .ok (.iload_n 1, 1) := by decide +kernel
theorem dX11_init_137 : decode cX11_init 137 = .ok (.iconst 2, 1) := by decide +kernel
theorem dX11_init_138 : decode cX11_init 138 = .ok (.if_icmp .ge 22, 3) := by decide +kernel
theorem dX11_init_141 : decode cX11_init 141 = .ok (.aload_n 0, 1) := by decide +kernel
theorem dX11_init_142 : decode cX11_init 142 = .ok (.getfield 16, 3) := by decide +kernel
theorem dX11_init_145 : decode cX11_init 145 = .ok (.iload_n 1, 1) := by decide +kernel
theorem dX11_init_146 : decode cX11_init 146 = .ok (.new 9, 3) := by decide +kernel
theorem dX11_init_149 : decode cX11_init 149 = .ok (.dup, 1) := by decide +kernel
theorem dX11_init_150 : decode cX11_init 150 = .ok (.invokespecial 11, 3) := by decide +kernel
theorem dX11_init_153 : decode cX11_init 153 = .ok (.aastore, 1) := by decide +kernel
theorem dX11_init_154 : decode cX11_init 154 = .ok (.iinc 1 1, 3) := by decide +kernel
theorem dX11_init_157 : decode cX11_init 157 = .ok (.goto (-21), 3) := by decide +kernel
theorem dX11_init_160 : decode cX11_init 160 = .ok (.return_, 1) := by decide +kernel
set_option maxRecDepth 20000 in
set_option maxHeartbeats 4000000 in
def fnX11_init  (σ : qMem) : Option qMem :=
  ((fnX2_init 1 σ).bind fun s1 => (nmM (si s1 0 0 1) fun s2 => (nmM (si s2 0 1 1) fun s3 => (if ckN 2 2 = true then (nmM (si s3 0 2 1) fun s4 => (if ¬ gi s4 0 0 = 0 then ((fnX3_init s4).bind fun s5 => (nmM (si s5 0 3 1) fun s6 => (if ¬ gi s6 0 0 = 0 then (if ¬ gi s6 0 3 = 0 then ((fnX9_init s6).bind fun s7 => (nmM (si s7 0 4 1) fun s8 => (if ¬ gi s8 0 0 = 0 then ((fnX4_init s8).bind fun s9 => (nmM (si s9 0 5 1) fun s10 => ((fnX6_init s10).bind fun s11 => (nmM (si s11 0 6 1) fun s12 => (if ckN 400 400 = true then (nmM (si s12 0 7 1) fun s13 => (if ckN 5 5 = true then (nmM (si s13 0 8 1) fun s14 => (if ckN 6 6 = true then (nmM (si s14 0 9 1) fun s15 => (nmM (si s15 0 10 0) fun s16 => (nmM (si s16 0 11 (-1)) fun s17 => (nmM (si s17 0 12 0) fun s18 => (nmM (si s18 0 13 0) fun s19 => (if ¬ gi s19 0 1 = 0 then ((fnX2_init 89 s19).bind fun s20 => (nmM (si s20 42 0 1) fun s21 => (if ¬ gi s21 0 1 = 0 then ((fnX2_init 130 s21).bind fun s22 => (nmM (si s22 42 1 1) fun s23 => (some s23))) else none))) else none)))))) else none)) else none)) else none))))) else none))) else none) else none))) else none)) else none))))
set_option maxRecDepth 20000 in
set_option maxHeartbeats 4000000 in
theorem anX11_init   (σ : qMem) : qAn wC mX11_init 0 [(0, .ref 0)] [] 1 σ 0 0 171 170 12602 (fnX11_init  σ) := by
  unfold fnX11_init
  refine n_aload_n (i := 0) (x := 0) dX11_init_0 rfl 0 rfl ?_
  refine n_obj dX11_init_1 (g_1 27 (by decide +kernel) rfl) ob_in ob_co ⟨Nat.le_of_ble_eq_true rfl, Nat.le_of_ble_eq_true rfl⟩ ?_
  refine n_aload_n (i := 0) (x := 0) dX11_init_4 rfl 0 rfl ?_
  refine n_new dX11_init_5 coX11_9 zC_1 rfl ⟨by omega, by omega⟩ ?_
  refine n_cast (n2 := 2) (cl2 := 1) (sl2 := 12) rfl rfl rfl ?_
  refine n_dup dX11_init_8 rfl ?_
  refine n_call mX2_init (n1 := 42) (mc1 := 40) (ms1 := 2313) [] (st := [.ref 1, .ref 0]) dX11_init_9 siX11_11 ⟨Nat.le_of_ble_eq_true rfl, Nat.le_of_ble_eq_true rfl⟩ rfl rfl (Nat.le_of_ble_eq_true rfl) (Nat.succ_le_of_lt (lt_len zC_1)) rfl ⟨by omega, by omega⟩ (knX2_init 1 pC_1 σ) (fun s1 => ?_)
  refine n_cast (n2 := 42) (cl2 := 41) (sl2 := 2325) rfl rfl rfl ?_
  refine n_putr (t := 1) dX11_init_12 fpX11_12 rfl fnX11_X11_0 (by first | exact Or.inl ⟨_, rfl⟩ | exact Or.inr ⟨_, rfl⟩) (by omega) zC_0 rfl ?_
  refine q_nmN (fun s2 => ?_)
  refine n_aload_n (i := 0) (x := 0) dX11_init_15 rfl 0 rfl ?_
  refine n_iconst (v := 2) dX11_init_16 (by decide) ?_
  refine n_newq (t0 := 5) dX11_init_17 (g_1 30 (by decide +kernel) rfl) (by decide) (fun _ => rfl) zC_42 (by decide) (by decide) (by decide) ⟨by omega, by omega⟩ ?_
  refine n_cast (n2 := 43) (cl2 := 42) (sl2 := 2327) rfl rfl rfl ?_
  refine n_putr (t := 42) dX11_init_20 fpX11_16 rfl fnX11_X11_1 (by first | exact Or.inl ⟨_, rfl⟩ | exact Or.inr ⟨_, rfl⟩) (by omega) zC_0 rfl ?_
  refine q_nmN (fun s3 => ?_)
  refine n_aload_n (i := 0) (x := 0) dX11_init_23 rfl 0 rfl ?_
  refine n_iconst (v := 2) dX11_init_24 (by decide) ?_
  refine n_newa (ty := .boolean) (t0 := 2) (N := 2) dX11_init_25 rfl ac_boolean (fun _ => rfl) (fun _ h => by cases h) zC_43 (by decide) (by decide) (fun _ _ => cB_bool) ⟨by omega, by omega⟩ ?_
  refine n_cast (n2 := 44) (cl2 := 43) (sl2 := 2329) rfl rfl rfl ?_
  refine n_putr (t := 43) dX11_init_27 fpX11_20 rfl fnX11_X11_2 (by first | exact Or.inl ⟨_, rfl⟩ | exact Or.inr ⟨_, rfl⟩) (by omega) zC_0 rfl ?_
  refine q_nmN (fun s4 => ?_)
  refine n_aload_n (i := 0) (x := 0) dX11_init_30 rfl 0 rfl ?_
  refine n_new dX11_init_31 coX11_24 zC_44 rfl ⟨by omega, by omega⟩ ?_
  refine n_cast (n2 := 45) (cl2 := 44) (sl2 := 2347) rfl rfl rfl ?_
  refine n_dup dX11_init_34 rfl ?_
  refine n_aload_n (i := 0) (x := 0) dX11_init_35 rfl 0 rfl ?_
  refine n_getr (t := 1) dX11_init_36 foX11_12 (by omega) zC_0 rfl ?_
  refine n_call mX3_init (n1 := 68) (mc1 := 23) (ms1 := 3921) [.ref 1] (st := [.ref 44, .ref 0]) dX11_init_39 siX11_26 ⟨Nat.le_of_ble_eq_true rfl, Nat.le_of_ble_eq_true rfl⟩ rfl rfl (Nat.le_of_ble_eq_true rfl) (Nat.succ_le_of_lt (lt_len zC_44)) rfl ⟨by omega, by omega⟩ (knX3_init s4) (fun s5 => ?_)
  refine n_cast (n2 := 68) (cl2 := 67) (sl2 := 6268) rfl rfl rfl ?_
  refine n_putr (t := 44) dX11_init_42 fpX11_29 rfl fnX11_X11_3 (by first | exact Or.inl ⟨_, rfl⟩ | exact Or.inr ⟨_, rfl⟩) (by omega) zC_0 rfl ?_
  refine q_nmN (fun s6 => ?_)
  refine n_aload_n (i := 0) (x := 0) dX11_init_45 rfl 0 rfl ?_
  refine n_new dX11_init_46 coX11_33 zC_68 rfl ⟨by omega, by omega⟩ ?_
  refine n_cast (n2 := 69) (cl2 := 68) (sl2 := 6277) rfl rfl rfl ?_
  refine n_dup dX11_init_49 rfl ?_
  refine n_aload_n (i := 0) (x := 0) dX11_init_50 rfl 0 rfl ?_
  refine n_getr (t := 1) dX11_init_51 foX11_12 (by omega) zC_0 rfl ?_
  refine n_aload_n (i := 0) (x := 0) dX11_init_54 rfl 0 rfl ?_
  refine n_getr (t := 44) dX11_init_55 foX11_29 (by omega) zC_0 rfl ?_
  refine n_call mX9_init (n1 := 73) (mc1 := 4) (ms1 := 190) [.ref 1, .ref 44] (st := [.ref 68, .ref 0]) dX11_init_58 siX11_35 ⟨Nat.le_of_ble_eq_true rfl, Nat.le_of_ble_eq_true rfl⟩ rfl rfl (Nat.le_of_ble_eq_true rfl) (Nat.succ_le_of_lt (lt_len zC_68)) rfl ⟨by omega, by omega⟩ (knX9_init s6) (fun s7 => ?_)
  refine n_cast (n2 := 73) (cl2 := 72) (sl2 := 6467) rfl rfl rfl ?_
  refine n_putr (t := 68) dX11_init_61 fpX11_38 rfl fnX11_X11_4 (by first | exact Or.inl ⟨_, rfl⟩ | exact Or.inr ⟨_, rfl⟩) (by omega) zC_0 rfl ?_
  refine q_nmN (fun s8 => ?_)
  refine n_aload_n (i := 0) (x := 0) dX11_init_64 rfl 0 rfl ?_
  refine n_new dX11_init_65 coX11_42 zC_73 rfl ⟨by omega, by omega⟩ ?_
  refine n_cast (n2 := 74) (cl2 := 73) (sl2 := 6474) rfl rfl rfl ?_
  refine n_dup dX11_init_68 rfl ?_
  refine n_aload_n (i := 0) (x := 0) dX11_init_69 rfl 0 rfl ?_
  refine n_getr (t := 1) dX11_init_70 foX11_12 (by omega) zC_0 rfl ?_
  refine n_call mX4_init (n1 := 77) (mc1 := 3) (ms1 := 72) [.ref 1] (st := [.ref 73, .ref 0]) dX11_init_73 siX11_44 ⟨Nat.le_of_ble_eq_true rfl, Nat.le_of_ble_eq_true rfl⟩ rfl rfl (Nat.le_of_ble_eq_true rfl) (Nat.succ_le_of_lt (lt_len zC_73)) rfl ⟨by omega, by omega⟩ (knX4_init s8) (fun s9 => ?_)
  refine n_cast (n2 := 77) (cl2 := 76) (sl2 := 6546) rfl rfl rfl ?_
  refine n_putr (t := 73) dX11_init_76 fpX11_45 rfl fnX11_X11_5 (by first | exact Or.inl ⟨_, rfl⟩ | exact Or.inr ⟨_, rfl⟩) (by omega) zC_0 rfl ?_
  refine q_nmN (fun s10 => ?_)
  refine n_aload_n (i := 0) (x := 0) dX11_init_79 rfl 0 rfl ?_
  refine n_new dX11_init_80 coX11_49 zC_77 rfl ⟨by omega, by omega⟩ ?_
  refine n_cast (n2 := 78) (cl2 := 77) (sl2 := 6553) rfl rfl rfl ?_
  refine n_dup dX11_init_83 rfl ?_
  refine n_call mX6_init (n1 := 86) (mc1 := 8) (ms1 := 988) [] (st := [.ref 77, .ref 0]) dX11_init_84 siX11_51 ⟨Nat.le_of_ble_eq_true rfl, Nat.le_of_ble_eq_true rfl⟩ rfl rfl (Nat.le_of_ble_eq_true rfl) (Nat.succ_le_of_lt (lt_len zC_77)) rfl ⟨by omega, by omega⟩ (knX6_init s10) (fun s11 => ?_)
  refine n_cast (n2 := 86) (cl2 := 85) (sl2 := 7541) rfl rfl rfl ?_
  refine n_putr (t := 77) dX11_init_87 fpX11_52 rfl fnX11_X11_6 (by first | exact Or.inl ⟨_, rfl⟩ | exact Or.inr ⟨_, rfl⟩) (by omega) zC_0 rfl ?_
  refine q_nmN (fun s12 => ?_)
  refine n_aload_n (i := 0) (x := 0) dX11_init_90 rfl 0 rfl ?_
  refine n_sipush (v := 400) dX11_init_91 (by decide) ?_
  refine n_newa (ty := .int) (t0 := 0) (N := 400) dX11_init_94 rfl ac_int (fun _ => rfl) (fun _ h => by cases h) zC_86 (by decide) (by decide) (fun _ _ => cB_int) ⟨by omega, by omega⟩ ?_
  refine n_cast (n2 := 87) (cl2 := 86) (sl2 := 7941) rfl rfl rfl ?_
  refine n_putr (t := 86) dX11_init_96 fpX11_56 rfl fnX11_X11_7 (by first | exact Or.inl ⟨_, rfl⟩ | exact Or.inr ⟨_, rfl⟩) (by omega) zC_0 rfl ?_
  refine q_nmN (fun s13 => ?_)
  refine n_aload_n (i := 0) (x := 0) dX11_init_99 rfl 0 rfl ?_
  refine n_iconst (v := 5) dX11_init_100 (by decide) ?_
  refine n_newa (ty := .int) (t0 := 0) (N := 5) dX11_init_101 rfl ac_int (fun _ => rfl) (fun _ h => by cases h) zC_87 (by decide) (by decide) (fun _ _ => cB_int) ⟨by omega, by omega⟩ ?_
  refine n_cast (n2 := 88) (cl2 := 87) (sl2 := 7946) rfl rfl rfl ?_
  refine n_putr (t := 87) dX11_init_103 fpX11_60 rfl fnX11_X11_8 (by first | exact Or.inl ⟨_, rfl⟩ | exact Or.inr ⟨_, rfl⟩) (by omega) zC_0 rfl ?_
  refine q_nmN (fun s14 => ?_)
  refine n_aload_n (i := 0) (x := 0) dX11_init_106 rfl 0 rfl ?_
  refine n_bipush (v := 6) dX11_init_107 (by decide) ?_
  refine n_newa (ty := .int) (t0 := 0) (N := 6) dX11_init_109 rfl ac_int (fun _ => rfl) (fun _ h => by cases h) zC_88 (by decide) (by decide) (fun _ _ => cB_int) ⟨by omega, by omega⟩ ?_
  refine n_cast (n2 := 89) (cl2 := 88) (sl2 := 7952) rfl rfl rfl ?_
  refine n_putr (t := 88) dX11_init_111 fpX11_63 rfl fnX11_X11_9 (by first | exact Or.inl ⟨_, rfl⟩ | exact Or.inr ⟨_, rfl⟩) (by omega) zC_0 rfl ?_
  refine q_nmN (fun s15 => ?_)
  refine n_aload_n (i := 0) (x := 0) dX11_init_114 rfl 0 rfl ?_
  refine n_iconst (v := 0) dX11_init_115 (by decide) ?_
  refine n_puti dX11_init_116 fpX11_66 rfl fnX11_X11_10 (by omega) zC_0 rfl ?_
  refine q_nmN (fun s16 => ?_)
  refine n_aload_n (i := 0) (x := 0) dX11_init_119 rfl 0 rfl ?_
  refine n_iconst (v := (-1)) dX11_init_120 (by decide) ?_
  refine n_puti dX11_init_121 fpX11_70 rfl fnX11_X11_11 (by omega) zC_0 rfl ?_
  refine q_nmN (fun s17 => ?_)
  refine n_aload_n (i := 0) (x := 0) dX11_init_124 rfl 0 rfl ?_
  refine n_iconst (v := 0) dX11_init_125 (by decide) ?_
  refine n_puti dX11_init_126 fpX11_73 rfl fnX11_X11_12 (by omega) zC_0 rfl ?_
  refine q_nmN (fun s18 => ?_)
  refine n_aload_n (i := 0) (x := 0) dX11_init_129 rfl 0 rfl ?_
  refine n_iconst (v := 0) dX11_init_130 (by decide) ?_
  refine n_puti dX11_init_131 fpX11_76 rfl fnX11_X11_13 (by omega) zC_0 rfl ?_
  refine q_nmN (fun s19 => ?_)
  refine n_iconst (v := 0) dX11_init_134 (by decide) ?_
  refine n_istore_n (i := 1) (L' := [(1, .int 0), (0, .ref 0)]) dX11_init_135 rfl (Nat.le_of_ble_eq_true rfl) rfl ?_
  refine n_iload_n (i := 1) (x := 0) dX11_init_136 rfl 0 rfl ?_
  refine n_iconst (v := 2) dX11_init_137 (by decide) ?_
  refine n_ge_f (x := 0) (y := 2) (tgt := 160) dX11_init_138 (by decide) (by decide) ?_
  refine n_aload_n (i := 0) (x := 0) dX11_init_141 rfl 1 rfl ?_
  refine n_getr (t := 42) dX11_init_142 foX11_16 (by omega) zC_0 rfl ?_
  refine n_iload_n (i := 1) (x := 0) dX11_init_145 rfl 0 rfl ?_
  refine n_new dX11_init_146 coX11_9 zC_89 rfl ⟨by omega, by omega⟩ ?_
  refine n_cast (n2 := 90) (cl2 := 89) (sl2 := 7964) rfl rfl rfl ?_
  refine n_dup dX11_init_149 rfl ?_
  refine n_call mX2_init (n1 := 130) (mc1 := 40) (ms1 := 2313) [] (st := [.ref 89, .int 0, .ref 42]) dX11_init_150 siX11_11 ⟨Nat.le_of_ble_eq_true rfl, Nat.le_of_ble_eq_true rfl⟩ rfl rfl (Nat.le_of_ble_eq_true rfl) (Nat.succ_le_of_lt (lt_len zC_89)) rfl ⟨by omega, by omega⟩ (knX2_init 89 pC_89 s19) (fun s20 => ?_)
  refine n_cast (n2 := 130) (cl2 := 129) (sl2 := 10277) rfl rfl rfl ?_
  refine n_aast (t0 := 5) (j := 0) dX11_init_153 (by omega) zC_42 (by omega) zC_89 rfl (fun _ => rfl) (by decide) (by decide) rfl ?_
  refine q_nmN (fun s21 => ?_)
  refine n_iinc (i := 1) (x := 0) (v := 1) (L' := [(1, .int 1), (0, .ref 0)]) dX11_init_154 0 rfl (by decide) (Nat.le_of_ble_eq_true rfl) rfl ?_
  refine n_goto (tgt := 136) dX11_init_157 (by decide) ?_
  refine n_iload_n (i := 1) (x := 1) dX11_init_136 rfl 0 rfl ?_
  refine n_iconst (v := 2) dX11_init_137 (by decide) ?_
  refine n_ge_f (x := 1) (y := 2) (tgt := 160) dX11_init_138 (by decide) (by decide) ?_
  refine n_aload_n (i := 0) (x := 0) dX11_init_141 rfl 1 rfl ?_
  refine n_getr (t := 42) dX11_init_142 foX11_16 (by omega) zC_0 rfl ?_
  refine n_iload_n (i := 1) (x := 1) dX11_init_145 rfl 0 rfl ?_
  refine n_new dX11_init_146 coX11_9 zC_130 rfl ⟨by omega, by omega⟩ ?_
  refine n_cast (n2 := 131) (cl2 := 130) (sl2 := 10289) rfl rfl rfl ?_
  refine n_dup dX11_init_149 rfl ?_
  refine n_call mX2_init (n1 := 171) (mc1 := 40) (ms1 := 2313) [] (st := [.ref 130, .int 1, .ref 42]) dX11_init_150 siX11_11 ⟨Nat.le_of_ble_eq_true rfl, Nat.le_of_ble_eq_true rfl⟩ rfl rfl (Nat.le_of_ble_eq_true rfl) (Nat.succ_le_of_lt (lt_len zC_130)) rfl ⟨by omega, by omega⟩ (knX2_init 130 pC_130 s21) (fun s22 => ?_)
  refine n_cast (n2 := 171) (cl2 := 170) (sl2 := 12602) rfl rfl rfl ?_
  refine n_aast (t0 := 5) (j := 1) dX11_init_153 (by omega) zC_42 (by omega) zC_130 rfl (fun _ => rfl) (by decide) (by decide) rfl ?_
  refine q_nmN (fun s23 => ?_)
  refine n_iinc (i := 1) (x := 1) (v := 2) (L' := [(1, .int 2), (0, .ref 0)]) dX11_init_154 0 rfl (by decide) (Nat.le_of_ble_eq_true rfl) rfl ?_
  refine n_goto (tgt := 136) dX11_init_157 (by decide) ?_
  refine n_iload_n (i := 1) (x := 2) dX11_init_136 rfl 0 rfl ?_
  refine n_iconst (v := 2) dX11_init_137 (by decide) ?_
  refine n_ge_t (x := 2) (y := 2) (tgt := 160) dX11_init_138 (by decide) (by decide) ?_
  exact n_vret dX11_init_160 rfl
theorem knX11_init   (σ : qMem) : qMn wC mX11_init [.ref 0] 1 σ 171 170 12602 (fnX11_init  σ) := qMn_of moX11_init (Nat.le_of_ble_eq_true rfl) (anX11_init   σ)

theorem dX12_init_0 : decode cX12_init 0 = .ok (.aload_n 0, 1) := by decide +kernel
theorem dX12_init_1 : decode cX12_init 1 = .ok (.invokespecial 14, 3) := by decide +kernel
theorem dX12_init_4 : decode cX12_init 4 = .ok (.aload_n 0, 1) := by decide +kernel
theorem dX12_init_5 : decode cX12_init 5 = .ok (.bipush 7, 2) := by decide +kernel
theorem dX12_init_7 : decode cX12_init 7 = .ok (.newarray .int, 2) := by decide +kernel
theorem dX12_init_9 : decode cX12_init 9 = .ok (.putfield 7, 3) := by decide +kernel
theorem dX12_init_12 : decode cX12_init 12 = .ok (.aload_n 0, 1) := by decide +kernel
theorem dX12_init_13 : decode cX12_init 13 = .ok (.sipush 1112, 3) := by decide +kernel
theorem dX12_init_16 : decode cX12_init 16 = .ok (.newarray .int, 2) := by decide +kernel
theorem dX12_init_18 : decode cX12_init 18 = .ok (.putfield 20, 3) := by decide +kernel
theorem dX12_init_21 : decode cX12_init 21 = .ok (.aload_n 0, 1) := by decide +kernel
theorem dX12_init_22 : decode cX12_init 22 = .ok (.sipush 2224, 3) := by decide +kernel
theorem dX12_init_25 : decode cX12_init 25 = .ok (.newarray .int, 2) := by decide +kernel
theorem dX12_init_27 : decode cX12_init 27 = .ok (.putfield 23, 3) := by decide +kernel
theorem dX12_init_30 : decode cX12_init 30 = .ok (.aload_n 0, 1) := by decide +kernel
theorem dX12_init_31 : decode cX12_init 31 = .ok (.iconst 2, 1) := by decide +kernel
theorem dX12_init_32 : decode cX12_init 32 = .ok (.newarray .boolean, 2) := by decide +kernel
theorem dX12_init_34 : decode cX12_init 34 = .ok (.putfield 26, 3) := by decide +kernel
theorem dX12_init_37 : decode cX12_init 37 = .ok (.aload_n 0, 1) := by decide +kernel
theorem dX12_init_38 : decode cX12_init 38 = .ok (.sipush 20100, 3) := by decide +kernel
theorem dX12_init_41 : decode cX12_init 41 = .ok (.newarray .boolean, 2) := by decide +kernel
theorem dX12_init_43 : decode cX12_init 43 = .ok (.putfield 30, 3) := by decide +kernel
theorem dX12_init_46 : decode cX12_init 46 = .ok (.aload_n 0, 1) := by decide +kernel
theorem dX12_init_47 : decode cX12_init 47 = .ok (.iconst (-1), 1) := by decide +kernel
theorem dX12_init_48 : decode cX12_init 48 = .ok (.putfield 33, 3) := by decide +kernel
theorem dX12_init_51 : decode cX12_init 51 = .ok (.aload_n 0, 1) := by decide +kernel
theorem dX12_init_52 : decode cX12_init 52 = .ok (.sipush 144, 3) := by decide +kernel
theorem dX12_init_55 : decode cX12_init 55 = .ok (.newarray .int, 2) := by decide +kernel
theorem dX12_init_57 : decode cX12_init 57 = .ok (.putfield 36, 3) := by decide +kernel
theorem dX12_init_60 : decode cX12_init 60 = .ok (.aload_n 0, 1) := by decide +kernel
theorem dX12_init_61 : decode cX12_init 61 = .ok (.ldc 39, 2) := by decide +kernel
theorem dX12_init_63 : decode cX12_init 63 = .ok (.newarray .boolean, 2) := by decide +kernel
theorem dX12_init_65 : decode cX12_init 65 = .ok (.putfield 40, 3) := by decide +kernel
theorem dX12_init_68 : decode cX12_init 68 = .ok (.aload_n 0, 1) := by decide +kernel
theorem dX12_init_69 : decode cX12_init 69 = .ok (.iconst (-1), 1) := by decide +kernel
theorem dX12_init_70 : decode cX12_init 70 = .ok (.putfield 43, 3) := by decide +kernel
theorem dX12_init_73 : decode cX12_init 73 = .ok (.aload_n 0, 1) := by decide +kernel
theorem dX12_init_74 : decode cX12_init 74 = .ok (.ldc 39, 2) := by decide +kernel
theorem dX12_init_76 : decode cX12_init 76 = .ok (.newarray .byte, 2) := by decide +kernel
theorem dX12_init_78 : decode cX12_init 78 = .ok (.putfield 46, 3) := by decide +kernel
theorem dX12_init_81 : decode cX12_init 81 = .ok (.aload_n 0, 1) := by decide +kernel
theorem dX12_init_82 : decode cX12_init 82 = .ok (.iconst (-1), 1) := by decide +kernel
theorem dX12_init_83 : decode cX12_init 83 = .ok (.putfield 50, 3) := by decide +kernel
theorem dX12_init_86 : decode cX12_init 86 = .ok (.aload_n 0, 1) := by decide +kernel
theorem dX12_init_87 : decode cX12_init 87 = .ok (.bipush 81, 2) := by decide +kernel
theorem dX12_init_89 : decode cX12_init 89 = .ok (.newarray .int, 2) := by decide +kernel
theorem dX12_init_91 : decode cX12_init 91 = .ok (.putfield 53, 3) := by decide +kernel
theorem dX12_init_94 : decode cX12_init 94 = .ok (.aload_n 0, 1) := by decide +kernel
theorem dX12_init_95 : decode cX12_init 95 = .ok (.bipush 24, 2) := by decide +kernel
theorem dX12_init_97 : decode cX12_init 97 = .ok (.newarray .int, 2) := by decide +kernel
theorem dX12_init_99 : decode cX12_init 99 = .ok (.putfield 56, 3) := by decide +kernel
theorem dX12_init_102 : decode cX12_init 102 = .ok (.aload_n 0, 1) := by decide +kernel
theorem dX12_init_103 : decode cX12_init 103 = .ok (.bipush 24, 2) := by decide +kernel
theorem dX12_init_105 : decode cX12_init 105 = .ok (.newarray .int, 2) := by decide +kernel
theorem dX12_init_107 : decode cX12_init 107 = .ok (.putfield 59, 3) := by decide +kernel
theorem dX12_init_110 : decode cX12_init 110 = .ok (.aload_n 0, 1) := by decide +kernel
theorem dX12_init_111 : decode cX12_init 111 = .ok (.bipush 24, 2) := by decide +kernel
theorem dX12_init_113 : decode cX12_init 113 = .ok (.newarray .int, 2) := by decide +kernel
theorem dX12_init_115 : decode cX12_init 115 = .ok (.putfield 62, 3) := by decide +kernel
theorem dX12_init_118 : decode cX12_init 118 = .ok (.aload_n 0, 1) := by decide +kernel
theorem dX12_init_119 : decode cX12_init 119 = .ok (.bipush 24, 2) := by decide +kernel
theorem dX12_init_121 : decode cX12_init 121 = .ok (.newarray .int, 2) := by decide +kernel
theorem dX12_init_123 : decode cX12_init 123 = .ok (.putfield 65, 3) := by decide +kernel
theorem dX12_init_126 : decode cX12_init 126 = .ok (.aload_n 0, 1) := by decide +kernel
theorem dX12_init_127 : decode cX12_init 127 = .ok (.bipush 6, 2) := by decide +kernel
theorem dX12_init_129 : decode cX12_init 129 = .ok (.newarray .int, 2) := by decide +kernel
theorem dX12_init_131 : decode cX12_init 131 = .ok (.putfield 68, 3) := by decide +kernel
theorem dX12_init_134 : decode cX12_init 134 = .ok (.aload_n 0, 1) := by decide +kernel
theorem dX12_init_135 : decode cX12_init 135 = .ok (.bipush 36, 2) := by decide +kernel
theorem dX12_init_137 : decode cX12_init 137 = .ok (.newarray .int, 2) := by decide +kernel
theorem dX12_init_139 : decode cX12_init 139 = .ok (.putfield 71, 3) := by decide +kernel
theorem dX12_init_142 : decode cX12_init 142 = .ok (.aload_n 0, 1) := by decide +kernel
theorem dX12_init_143 : decode cX12_init 143 = .ok (.bipush 6, 2) := by decide +kernel
theorem dX12_init_145 : decode cX12_init 145 = .ok (.newarray .int, 2) := by decide +kernel
theorem dX12_init_147 : decode cX12_init 147 = .ok (.putfield 74, 3) := by decide +kernel
theorem dX12_init_150 : decode cX12_init 150 = .ok (.aload_n 0, 1) := by decide +kernel
theorem dX12_init_151 : decode cX12_init 151 = .ok (.bipush 57, 2) := by decide +kernel
theorem dX12_init_153 : decode cX12_init 153 = .ok (.newarray .byte, 2) := by decide +kernel
theorem dX12_init_155 : decode cX12_init 155 = .ok (.dup, 1) := by decide +kernel
theorem dX12_init_156 : decode cX12_init 156 = .ok (.iconst 0, 1) := by decide +kernel
theorem dX12_init_157 : decode cX12_init 157 = .ok (.bipush 110, 2) := by decide +kernel
theorem dX12_init_159 : decode cX12_init 159 = .ok (.bastore, 1) := by decide +kernel
theorem dX12_init_160 : decode cX12_init 160 = .ok (.dup, 1) := by decide +kernel
theorem dX12_init_161 : decode cX12_init 161 = .ok (.iconst 1, 1) := by decide +kernel
theorem dX12_init_162 : decode cX12_init 162 = .ok (.bipush 111, 2) := by decide +kernel
theorem dX12_init_164 : decode cX12_init 164 = .ok (.bastore, 1) := by decide +kernel
theorem dX12_init_165 : decode cX12_init 165 = .ok (.dup, 1) := by decide +kernel
theorem dX12_init_166 : decode cX12_init 166 = .ok (.iconst 2, 1) := by decide +kernel
theorem dX12_init_167 : decode cX12_init 167 = .ok (.bipush 105, 2) := by decide +kernel
theorem dX12_init_169 : decode cX12_init 169 = .ok (.bastore, 1) := by decide +kernel
theorem dX12_init_170 : decode cX12_init 170 = .ok (.dup, 1) := by decide +kernel
theorem dX12_init_171 : decode cX12_init 171 = .ok (.iconst 3, 1) := by decide +kernel
theorem dX12_init_172 : decode cX12_init 172 = .ok (.bipush 115, 2) := by decide +kernel
theorem dX12_init_174 : decode cX12_init 174 = .ok (.bastore, 1) := by decide +kernel
theorem dX12_init_175 : decode cX12_init 175 = .ok (.dup, 1) := by decide +kernel
theorem dX12_init_176 : decode cX12_init 176 = .ok (.iconst 4, 1) := by decide +kernel
theorem dX12_init_177 : decode cX12_init 177 = .ok (.bipush 101, 2) := by decide +kernel
theorem dX12_init_179 : decode cX12_init 179 = .ok (.bastore, 1) := by decide +kernel
theorem dX12_init_180 : decode cX12_init 180 = .ok (.dup, 1) := by decide +kernel
theorem dX12_init_181 : decode cX12_init 181 = .ok (.iconst 5, 1) := by decide +kernel
theorem dX12_init_182 : decode cX12_init 182 = .ok (.bipush 32, 2) := by decide +kernel
theorem dX12_init_184 : decode cX12_init 184 = .ok (.bastore, 1) := by decide +kernel
theorem dX12_init_185 : decode cX12_init 185 = .ok (.dup, 1) := by decide +kernel
theorem dX12_init_186 : decode cX12_init 186 = .ok (.bipush 6, 2) := by decide +kernel
theorem dX12_init_188 : decode cX12_init 188 = .ok (.bipush 108, 2) := by decide +kernel
theorem dX12_init_190 : decode cX12_init 190 = .ok (.bastore, 1) := by decide +kernel
theorem dX12_init_191 : decode cX12_init 191 = .ok (.dup, 1) := by decide +kernel
theorem dX12_init_192 : decode cX12_init 192 = .ok (.bipush 7, 2) := by decide +kernel
theorem dX12_init_194 : decode cX12_init 194 = .ok (.bipush 111, 2) := by decide +kernel
theorem dX12_init_196 : decode cX12_init 196 = .ok (.bastore, 1) := by decide +kernel
theorem dX12_init_197 : decode cX12_init 197 = .ok (.dup, 1) := by decide +kernel
theorem dX12_init_198 : decode cX12_init 198 = .ok (.bipush 8, 2) := by decide +kernel
theorem dX12_init_200 : decode cX12_init 200 = .ok (.bipush 115, 2) := by decide +kernel
theorem dX12_init_202 : decode cX12_init 202 = .ok (.bastore, 1) := by decide +kernel
theorem dX12_init_203 : decode cX12_init 203 = .ok (.dup, 1) := by decide +kernel
theorem dX12_init_204 : decode cX12_init 204 = .ok (.bipush 9, 2) := by decide +kernel
theorem dX12_init_206 : decode cX12_init 206 = .ok (.bipush 115, 2) := by decide +kernel
theorem dX12_init_208 : decode cX12_init 208 = .ok (.bastore, 1) := by decide +kernel
theorem dX12_init_209 : decode cX12_init 209 = .ok (.dup, 1) := by decide +kernel
theorem dX12_init_210 : decode cX12_init 210 = .ok (.bipush 10, 2) := by decide +kernel
theorem dX12_init_212 : decode cX12_init 212 = .ok (.bipush 32, 2) := by decide +kernel
theorem dX12_init_214 : decode cX12_init 214 = .ok (.bastore, 1) := by decide +kernel
theorem dX12_init_215 : decode cX12_init 215 = .ok (.dup, 1) := by decide +kernel
theorem dX12_init_216 : decode cX12_init 216 = .ok (.bipush 11, 2) := by decide +kernel
theorem dX12_init_218 : decode cX12_init 218 = .ok (.bipush 101, 2) := by decide +kernel
theorem dX12_init_220 : decode cX12_init 220 = .ok (.bastore, 1) := by decide +kernel
theorem dX12_init_221 : decode cX12_init 221 = .ok (.dup, 1) := by decide +kernel
theorem dX12_init_222 : decode cX12_init 222 = .ok (.bipush 12, 2) := by decide +kernel
theorem dX12_init_224 : decode cX12_init 224 = .ok (.bipush 97, 2) := by decide +kernel
theorem dX12_init_226 : decode cX12_init 226 = .ok (.bastore, 1) := by decide +kernel
theorem dX12_init_227 : decode cX12_init 227 = .ok (.dup, 1) := by decide +kernel
theorem dX12_init_228 : decode cX12_init 228 = .ok (.bipush 13, 2) := by decide +kernel
theorem dX12_init_230 : decode cX12_init 230 = .ok (.bipush 114, 2) := by decide +kernel
theorem dX12_init_232 : decode cX12_init 232 = .ok (.bastore, 1) := by decide +kernel
theorem dX12_init_233 : decode cX12_init 233 = .ok (.dup, 1) := by decide +kernel
theorem dX12_init_234 : decode cX12_init 234 = .ok (.bipush 14, 2) := by decide +kernel
theorem dX12_init_236 : decode cX12_init 236 = .ok (.bipush 32, 2) := by decide +kernel
theorem dX12_init_238 : decode cX12_init 238 = .ok (.bastore, 1) := by decide +kernel
theorem dX12_init_239 : decode cX12_init 239 = .ok (.dup, 1) := by decide +kernel
theorem dX12_init_240 : decode cX12_init 240 = .ok (.bipush 15, 2) := by decide +kernel
theorem dX12_init_242 : decode cX12_init 242 = .ok (.bipush 105, 2) := by decide +kernel
theorem dX12_init_244 : decode cX12_init 244 = .ok (.bastore, 1) := by decide +kernel
theorem dX12_init_245 : decode cX12_init 245 = .ok (.dup, 1) := by decide +kernel
theorem dX12_init_246 : decode cX12_init 246 = .ok (.bipush 16, 2) := by decide +kernel
theorem dX12_init_248 : decode cX12_init 248 = .ok (.bipush 102, 2) := by decide +kernel
theorem dX12_init_250 : decode cX12_init 250 = .ok (.bastore, 1) := by decide +kernel
theorem dX12_init_251 : decode cX12_init 251 = .ok (.dup, 1) := by decide +kernel
theorem dX12_init_252 : decode cX12_init 252 = .ok (.bipush 17, 2) := by decide +kernel
theorem dX12_init_254 : decode cX12_init 254 = .ok (.bipush 32, 2) := by decide +kernel
theorem dX12_init_256 : decode cX12_init 256 = .ok (.bastore, 1) := by decide +kernel
theorem dX12_init_257 : decode cX12_init 257 = .ok (.dup, 1) := by decide +kernel
theorem dX12_init_258 : decode cX12_init 258 = .ok (.bipush 18, 2) := by decide +kernel
theorem dX12_init_260 : decode cX12_init 260 = .ok (.bipush 111, 2) := by decide +kernel
theorem dX12_init_262 : decode cX12_init 262 = .ok (.bastore, 1) := by decide +kernel
theorem dX12_init_263 : decode cX12_init 263 = .ok (.dup, 1) := by decide +kernel
theorem dX12_init_264 : decode cX12_init 264 = .ok (.bipush 19, 2) := by decide +kernel
theorem dX12_init_266 : decode cX12_init 266 = .ok (.bipush 114, 2) := by decide +kernel
theorem dX12_init_268 : decode cX12_init 268 = .ok (.bastore, 1) := by decide +kernel
theorem dX12_init_269 : decode cX12_init 269 = .ok (.dup, 1) := by decide +kernel
theorem dX12_init_270 : decode cX12_init 270 = .ok (.bipush 20, 2) := by decide +kernel
theorem dX12_init_272 : decode cX12_init 272 = .ok (.bipush 32, 2) := by decide +kernel
theorem dX12_init_274 : decode cX12_init 274 = .ok (.bastore, 1) := by decide +kernel
theorem dX12_init_275 : decode cX12_init 275 = .ok (.dup, 1) := by decide +kernel
theorem dX12_init_276 : decode cX12_init 276 = .ok (.bipush 21, 2) := by decide +kernel
theorem dX12_init_278 : decode cX12_init 278 = .ok (.bipush 97, 2) := by decide +kernel
theorem dX12_init_280 : decode cX12_init 280 = .ok (.bastore, 1) := by decide +kernel
theorem dX12_init_281 : decode cX12_init 281 = .ok (.dup, 1) := by decide +kernel
theorem dX12_init_282 : decode cX12_init 282 = .ok (.bipush 22, 2) := by decide +kernel
theorem dX12_init_284 : decode cX12_init 284 = .ok (.bipush 110, 2) := by decide +kernel
theorem dX12_init_286 : decode cX12_init 286 = .ok (.bastore, 1) := by decide +kernel
theorem dX12_init_287 : decode cX12_init 287 = .ok (.dup, 1) := by decide +kernel
theorem dX12_init_288 : decode cX12_init 288 = .ok (.bipush 23, 2) := by decide +kernel
theorem dX12_init_290 : decode cX12_init 290 = .ok (.bipush 100, 2) := by decide +kernel
theorem dX12_init_292 : decode cX12_init 292 = .ok (.bastore, 1) := by decide +kernel
theorem dX12_init_293 : decode cX12_init 293 = .ok (.dup, 1) := by decide +kernel
theorem dX12_init_294 : decode cX12_init 294 = .ok (.bipush 24, 2) := by decide +kernel
theorem dX12_init_296 : decode cX12_init 296 = .ok (.bipush 32, 2) := by decide +kernel
theorem dX12_init_298 : decode cX12_init 298 = .ok (.bastore, 1) := by decide +kernel
theorem dX12_init_299 : decode cX12_init 299 = .ok (.dup, 1) := by decide +kernel
theorem dX12_init_300 : decode cX12_init 300 = .ok (.bipush 25, 2) := by decide +kernel
theorem dX12_init_302 : decode cX12_init 302 = .ok (.bipush 110, 2) := by decide +kernel
theorem dX12_init_304 : decode cX12_init 304 = .ok (.bastore, 1) := by decide +kernel
theorem dX12_init_305 : decode cX12_init 305 = .ok (.dup, 1) := by decide +kernel
theorem dX12_init_306 : decode cX12_init 306 = .ok (.bipush 26, 2) := by decide +kernel
theorem dX12_init_308 : decode cX12_init 308 = .ok (.bipush 111, 2) := by decide +kernel
theorem dX12_init_310 : decode cX12_init 310 = .ok (.bastore, 1) := by decide +kernel
theorem dX12_init_311 : decode cX12_init 311 = .ok (.dup, 1) := by decide +kernel
theorem dX12_init_312 : decode cX12_init 312 = .ok (.bipush 27, 2) := by decide +kernel
theorem dX12_init_314 : decode cX12_init 314 = .ok (.bipush 116, 2) := by decide +kernel
theorem dX12_init_316 : decode cX12_init 316 = .ok (.bastore, 1) := by decide +kernel
theorem dX12_init_317 : decode cX12_init 317 = .ok (.dup, 1) := by decide +kernel
theorem dX12_init_318 : decode cX12_init 318 = .ok (.bipush 28, 2) := by decide +kernel
theorem dX12_init_320 : decode cX12_init 320 = .ok (.bipush 32, 2) := by decide +kernel
theorem dX12_init_322 : decode cX12_init 322 = .ok (.bastore, 1) := by decide +kernel
theorem dX12_init_323 : decode cX12_init 323 = .ok (.dup, 1) := by decide +kernel
theorem dX12_init_324 : decode cX12_init 324 = .ok (.bipush 29, 2) := by decide +kernel
theorem dX12_init_326 : decode cX12_init 326 = .ok (.bipush 115, 2) := by decide +kernel
theorem dX12_init_328 : decode cX12_init 328 = .ok (.bastore, 1) := by decide +kernel
theorem dX12_init_329 : decode cX12_init 329 = .ok (.dup, 1) := by decide +kernel
theorem dX12_init_330 : decode cX12_init 330 = .ok (.bipush 30, 2) := by decide +kernel
theorem dX12_init_332 : decode cX12_init 332 = .ok (.bipush 112, 2) := by decide +kernel
theorem dX12_init_334 : decode cX12_init 334 = .ok (.bastore, 1) := by decide +kernel
theorem dX12_init_335 : decode cX12_init 335 = .ok (.dup, 1) := by decide +kernel
theorem dX12_init_336 : decode cX12_init 336 = .ok (.bipush 31, 2) := by decide +kernel
theorem dX12_init_338 : decode cX12_init 338 = .ok (.bipush 101, 2) := by decide +kernel
theorem dX12_init_340 : decode cX12_init 340 = .ok (.bastore, 1) := by decide +kernel
theorem dX12_init_341 : decode cX12_init 341 = .ok (.dup, 1) := by decide +kernel
theorem dX12_init_342 : decode cX12_init 342 = .ok (.bipush 32, 2) := by decide +kernel
theorem dX12_init_344 : decode cX12_init 344 = .ok (.bipush 101, 2) := by decide +kernel
theorem dX12_init_346 : decode cX12_init 346 = .ok (.bastore, 1) := by decide +kernel
theorem dX12_init_347 : decode cX12_init 347 = .ok (.dup, 1) := by decide +kernel
theorem dX12_init_348 : decode cX12_init 348 = .ok (.bipush 33, 2) := by decide +kernel
theorem dX12_init_350 : decode cX12_init 350 = .ok (.bipush 100, 2) := by decide +kernel
theorem dX12_init_352 : decode cX12_init 352 = .ok (.bastore, 1) := by decide +kernel
theorem dX12_init_353 : decode cX12_init 353 = .ok (.dup, 1) := by decide +kernel
theorem dX12_init_354 : decode cX12_init 354 = .ok (.bipush 34, 2) := by decide +kernel
theorem dX12_init_356 : decode cX12_init 356 = .ok (.bipush 32, 2) := by decide +kernel
theorem dX12_init_358 : decode cX12_init 358 = .ok (.bastore, 1) := by decide +kernel
theorem dX12_init_359 : decode cX12_init 359 = .ok (.dup, 1) := by decide +kernel
theorem dX12_init_360 : decode cX12_init 360 = .ok (.bipush 35, 2) := by decide +kernel
theorem dX12_init_362 : decode cX12_init 362 = .ok (.bipush 100, 2) := by decide +kernel
theorem dX12_init_364 : decode cX12_init 364 = .ok (.bastore, 1) := by decide +kernel
theorem dX12_init_365 : decode cX12_init 365 = .ok (.dup, 1) := by decide +kernel
theorem dX12_init_366 : decode cX12_init 366 = .ok (.bipush 36, 2) := by decide +kernel
theorem dX12_init_368 : decode cX12_init 368 = .ok (.bipush 101, 2) := by decide +kernel
theorem dX12_init_370 : decode cX12_init 370 = .ok (.bastore, 1) := by decide +kernel
theorem dX12_init_371 : decode cX12_init 371 = .ok (.dup, 1) := by decide +kernel
theorem dX12_init_372 : decode cX12_init 372 = .ok (.bipush 37, 2) := by decide +kernel
theorem dX12_init_374 : decode cX12_init 374 = .ok (.bipush 112, 2) := by decide +kernel
theorem dX12_init_376 : decode cX12_init 376 = .ok (.bastore, 1) := by decide +kernel
theorem dX12_init_377 : decode cX12_init 377 = .ok (.dup, 1) := by decide +kernel
theorem dX12_init_378 : decode cX12_init 378 = .ok (.bipush 38, 2) := by decide +kernel
theorem dX12_init_380 : decode cX12_init 380 = .ok (.bipush 116, 2) := by decide +kernel
theorem dX12_init_382 : decode cX12_init 382 = .ok (.bastore, 1) := by decide +kernel
theorem dX12_init_383 : decode cX12_init 383 = .ok (.dup, 1) := by decide +kernel
theorem dX12_init_384 : decode cX12_init 384 = .ok (.bipush 39, 2) := by decide +kernel
theorem dX12_init_386 : decode cX12_init 386 = .ok (.bipush 104, 2) := by decide +kernel
theorem dX12_init_388 : decode cX12_init 388 = .ok (.bastore, 1) := by decide +kernel
theorem dX12_init_389 : decode cX12_init 389 = .ok (.dup, 1) := by decide +kernel
theorem dX12_init_390 : decode cX12_init 390 = .ok (.bipush 40, 2) := by decide +kernel
theorem dX12_init_392 : decode cX12_init 392 = .ok (.bipush 32, 2) := by decide +kernel
theorem dX12_init_394 : decode cX12_init 394 = .ok (.bastore, 1) := by decide +kernel
theorem dX12_init_395 : decode cX12_init 395 = .ok (.dup, 1) := by decide +kernel
theorem dX12_init_396 : decode cX12_init 396 = .ok (.bipush 41, 2) := by decide +kernel
theorem dX12_init_398 : decode cX12_init 398 = .ok (.bipush 114, 2) := by decide +kernel
theorem dX12_init_400 : decode cX12_init 400 = .ok (.bastore, 1) := by decide +kernel
theorem dX12_init_401 : decode cX12_init 401 = .ok (.dup, 1) := by decide +kernel
theorem dX12_init_402 : decode cX12_init 402 = .ok (.bipush 42, 2) := by decide +kernel
theorem dX12_init_404 : decode cX12_init 404 = .ok (.bipush 97, 2) := by decide +kernel
theorem dX12_init_406 : decode cX12_init 406 = .ok (.bastore, 1) := by decide +kernel
theorem dX12_init_407 : decode cX12_init 407 = .ok (.dup, 1) := by decide +kernel
theorem dX12_init_408 : decode cX12_init 408 = .ok (.bipush 43, 2) := by decide +kernel
theorem dX12_init_410 : decode cX12_init 410 = .ok (.bipush 110, 2) := by decide +kernel
theorem dX12_init_412 : decode cX12_init 412 = .ok (.bastore, 1) := by decide +kernel
theorem dX12_init_413 : decode cX12_init 413 = .ok (.dup, 1) := by decide +kernel
theorem dX12_init_414 : decode cX12_init 414 = .ok (.bipush 44, 2) := by decide +kernel
theorem dX12_init_416 : decode cX12_init 416 = .ok (.bipush 103, 2) := by decide +kernel
theorem dX12_init_418 : decode cX12_init 418 = .ok (.bastore, 1) := by decide +kernel
theorem dX12_init_419 : decode cX12_init 419 = .ok (.dup, 1) := by decide +kernel
theorem dX12_init_420 : decode cX12_init 420 = .ok (.bipush 45, 2) := by decide +kernel
theorem dX12_init_422 : decode cX12_init 422 = .ok (.bipush 101, 2) := by decide +kernel
theorem dX12_init_424 : decode cX12_init 424 = .ok (.bastore, 1) := by decide +kernel
theorem dX12_init_425 : decode cX12_init 425 = .ok (.dup, 1) := by decide +kernel
theorem dX12_init_426 : decode cX12_init 426 = .ok (.bipush 46, 2) := by decide +kernel
theorem dX12_init_428 : decode cX12_init 428 = .ok (.bipush 32, 2) := by decide +kernel
theorem dX12_init_430 : decode cX12_init 430 = .ok (.bastore, 1) := by decide +kernel
theorem dX12_init_431 : decode cX12_init 431 = .ok (.dup, 1) := by decide +kernel
theorem dX12_init_432 : decode cX12_init 432 = .ok (.bipush 47, 2) := by decide +kernel
theorem dX12_init_434 : decode cX12_init 434 = .ok (.bipush 98, 2) := by decide +kernel
theorem dX12_init_436 : decode cX12_init 436 = .ok (.bastore, 1) := by decide +kernel
theorem dX12_init_437 : decode cX12_init 437 = .ok (.dup, 1) := by decide +kernel
theorem dX12_init_438 : decode cX12_init 438 = .ok (.bipush 48, 2) := by decide +kernel
theorem dX12_init_440 : decode cX12_init 440 = .ok (.bipush 101, 2) := by decide +kernel
theorem dX12_init_442 : decode cX12_init 442 = .ok (.bastore, 1) := by decide +kernel
theorem dX12_init_443 : decode cX12_init 443 = .ok (.dup, 1) := by decide +kernel
theorem dX12_init_444 : decode cX12_init 444 = .ok (.bipush 49, 2) := by decide +kernel
theorem dX12_init_446 : decode cX12_init 446 = .ok (.bipush 108, 2) := by decide +kernel
theorem dX12_init_448 : decode cX12_init 448 = .ok (.bastore, 1) := by decide +kernel
theorem dX12_init_449 : decode cX12_init 449 = .ok (.dup, 1) := by decide +kernel
theorem dX12_init_450 : decode cX12_init 450 = .ok (.bipush 50, 2) := by decide +kernel
theorem dX12_init_452 : decode cX12_init 452 = .ok (.bipush 108, 2) := by decide +kernel
theorem dX12_init_454 : decode cX12_init 454 = .ok (.bastore, 1) := by decide +kernel
theorem dX12_init_455 : decode cX12_init 455 = .ok (.dup, 1) := by decide +kernel
theorem dX12_init_456 : decode cX12_init 456 = .ok (.bipush 51, 2) := by decide +kernel
theorem dX12_init_458 : decode cX12_init 458 = .ok (.bipush 32, 2) := by decide +kernel
theorem dX12_init_460 : decode cX12_init 460 = .ok (.bastore, 1) := by decide +kernel
theorem dX12_init_461 : decode cX12_init 461 = .ok (.dup, 1) := by decide +kernel
theorem dX12_init_462 : decode cX12_init 462 = .ok (.bipush 52, 2) := by decide +kernel
theorem dX12_init_464 : decode cX12_init 464 = .ok (.bipush 98, 2) := by decide +kernel
theorem dX12_init_466 : decode cX12_init 466 = .ok (.bastore, 1) := by decide +kernel
theorem dX12_init_467 : decode cX12_init 467 = .ok (.dup, 1) := by decide +kernel
theorem dX12_init_468 : decode cX12_init 468 = .ok (.bipush 53, 2) := by decide +kernel
theorem dX12_init_470 : decode cX12_init 470 = .ok (.bipush 111, 2) := by decide +kernel
theorem dX12_init_472 : decode cX12_init 472 = .ok (.bastore, 1) := by decide +kernel
theorem dX12_init_473 : decode cX12_init 473 = .ok (.dup, 1) := by decide +kernel
theorem dX12_init_474 : decode cX12_init 474 = .ok (.bipush 54, 2) := by decide +kernel
theorem dX12_init_476 : decode cX12_init 476 = .ok (.bipush 97, 2) := by decide +kernel
theorem dX12_init_478 : decode cX12_init 478 = .ok (.bastore, 1) := by decide +kernel
theorem dX12_init_479 : decode cX12_init 479 = .ok (.dup, 1) := by decide +kernel
theorem dX12_init_480 : decode cX12_init 480 = .ok (.bipush 55, 2) := by decide +kernel
theorem dX12_init_482 : decode cX12_init 482 = .ok (.bipush 116, 2) := by decide +kernel
theorem dX12_init_484 : decode cX12_init 484 = .ok (.bastore, 1) := by decide +kernel
theorem dX12_init_485 : decode cX12_init 485 = .ok (.dup, 1) := by decide +kernel
theorem dX12_init_486 : decode cX12_init 486 = .ok (.bipush 56, 2) := by decide +kernel
theorem dX12_init_488 : decode cX12_init 488 = .ok (.bipush 32, 2) := by decide +kernel
theorem dX12_init_490 : decode cX12_init 490 = .ok (.bastore, 1) := by decide +kernel
theorem dX12_init_491 : decode cX12_init 491 = .ok (.putfield 77, 3) := by decide +kernel
theorem dX12_init_494 : decode cX12_init 494 = .ok (.aload_n 0, 1) := by decide +kernel
theorem dX12_init_495 : decode cX12_init 495 = .ok (.sipush 400, 3) := by decide +kernel
theorem dX12_init_498 : decode cX12_init 498 = .ok (.newarray .byte, 2) := by decide +kernel
theorem dX12_init_500 : decode cX12_init 500 = .ok (.putfield 80, 3) := by decide +kernel
theorem dX12_init_503 : decode cX12_init 503 = .ok (.aload_n 0, 1) := by decide +kernel
theorem dX12_init_504 : decode cX12_init 504 = .ok (.iconst 5, 1) := by decide +kernel
theorem dX12_init_505 : decode cX12_init 505 = .ok (.newarray .int, 2) := by decide +kernel
theorem dX12_init_507 : decode cX12_init 507 = .ok (.putfield 83, 3) := by decide +kernel
theorem dX12_init_510 : decode cX12_init 510 = .ok (.aload_n 0, 1) := by decide +kernel
theorem dX12_init_511 : decode cX12_init 511 = .ok (.iconst (-1), 1) := by decide +kernel
theorem dX12_init_512 : decode cX12_init 512 = .ok (.putfield 86, 3) := by decide +kernel
theorem dX12_init_515 : decode cX12_init 515 = .ok (.aload_n 0, 1) := by decide +kernel
theorem dX12_init_516 : decode cX12_init 516 = .ok (.sipush 401, 3) := by decide +kernel
theorem dX12_init_519 : decode cX12_init 519 = .ok (.newarray .int, 2) := by decide +kernel
theorem dX12_init_521 : decode cX12_init 521 = .ok (.putfield 89, 3) := by decide +kernel
theorem dX12_init_524 : decode cX12_init 524 = .ok (.aload_n 0, 1) := by decide +kernel
theorem dX12_init_525 : decode cX12_init 525 = .ok (.sipush 401, 3) := by decide +kernel
theorem dX12_init_528 : decode cX12_init 528 = .ok (.newarray .int, 2) := by decide +kernel
theorem dX12_init_530 : decode cX12_init 530 = .ok (.putfield 92, 3) := by decide +kernel
theorem dX12_init_533 : decode cX12_init 533 = .ok (.aload_n 0, 1) := by decide +kernel
theorem dX12_init_534 : decode cX12_init 534 = .ok (.sipush 401, 3) := by decide +kernel
theorem dX12_init_537 : decode cX12_init 537 = .ok (.newarray .int, 2) := by decide +kernel
theorem dX12_init_539 : decode cX12_init 539 = .ok (.putfield 95, 3) := by decide +kernel
theorem dX12_init_542 : decode cX12_init 542 = .ok (.aload_n 0, 1) := by decide +kernel
theorem dX12_init_543 : decode cX12_init 543 = .ok (.iconst 5, 1) := by decide +kernel
theorem dX12_init_544 : decode cX12_init 544 = .ok (.newarray .int, 2) := by decide +kernel
theorem dX12_init_546 : decode cX12_init 546 = .ok (.putfield 98, 3) := by decide +kernel
theorem dX12_init_549 : decode cX12_init 549 = .ok (.aload_n 0, 1) := by decide +kernel
theorem dX12_init_550 : decode cX12_init 550 = .ok (.sipush 201, 3) := by decide +kernel
theorem dX12_init_553 : decode cX12_init 553 = .ok (.newarray .boolean, 2) := by decide +kernel
theorem dX12_init_555 : decode cX12_init 555 = .ok (.putfield 101, 3) := by decide +kernel
theorem dX12_init_558 : decode cX12_init 558 = .ok (.aload_n 0, 1) := by decide +kernel
theorem dX12_init_559 : decode cX12_init 559 = .ok (.bipush 6, 2) := by decide +kernel
theorem dX12_init_561 : decode cX12_init 561 = .ok (.newarray .int, 2) := by decide +kernel
theorem dX12_init_563 : decode cX12_init 563 = .ok (.putfield 104, 3) := by decide +kernel
theorem dX12_init_566 : decode cX12_init 566 = .ok (.aload_n 0, 1) := by decide +kernel
theorem dX12_init_567 : decode cX12_init 567 = .ok (.bipush 6, 2) := by decide +kernel
theorem dX12_init_569 : decode cX12_init 569 = .ok (.newarray .int, 2) := by decide +kernel
theorem dX12_init_571 : decode cX12_init 571 = .ok (.putfield 107, 3) := by decide +kernel
theorem dX12_init_574 : decode cX12_init 574 = .ok (.aload_n 0, 1) := by decide +kernel
theorem dX12_init_575 : decode cX12_init 575 = .ok (.getfield 20, 3) := by decide +kernel
theorem dX12_init_578 : decode cX12_init 578 = .ok (.iconst 2, 1) := by decide +kernel
theorem dX12_init_579 : decode cX12_init 579 = .ok (.iconst 5, 1) := by decide +kernel
theorem dX12_init_580 : decode cX12_init 580 = .ok (.iastore, 1) := by decide +kernel
theorem dX12_init_581 : decode cX12_init 581 = .ok (.aload_n 0, 1) := by decide +kernel
theorem dX12_init_582 : decode cX12_init 582 = .ok (.getfield 20, 3) := by decide +kernel
theorem dX12_init_585 : decode cX12_init 585 = .ok (.bipush 24, 2) := by decide +kernel
theorem dX12_init_587 : decode cX12_init 587 = .ok (.iconst 5, 1) := by decide +kernel
theorem dX12_init_588 : decode cX12_init 588 = .ok (.iastore, 1) := by decide +kernel
theorem dX12_init_589 : decode cX12_init 589 = .ok (.aload_n 0, 1) := by decide +kernel
theorem dX12_init_590 : decode cX12_init 590 = .ok (.getfield 20, 3) := by decide +kernel
theorem dX12_init_593 : decode cX12_init 593 = .ok (.bipush 44, 2) := by decide +kernel
theorem dX12_init_595 : decode cX12_init 595 = .ok (.iconst 1, 1) := by decide +kernel
theorem dX12_init_596 : decode cX12_init 596 = .ok (.iastore, 1) := by decide +kernel
theorem dX12_init_597 : decode cX12_init 597 = .ok (.aload_n 0, 1) := by decide +kernel
theorem dX12_init_598 : decode cX12_init 598 = .ok (.getfield 20, 3) := by decide +kernel
theorem dX12_init_601 : decode cX12_init 601 = .ok (.bipush 45, 2) := by decide +kernel
theorem dX12_init_603 : decode cX12_init 603 = .ok (.iconst 1, 1) := by decide +kernel
theorem dX12_init_604 : decode cX12_init 604 = .ok (.iastore, 1) := by decide +kernel
theorem dX12_init_605 : decode cX12_init 605 = .ok (.aload_n 0, 1) := by decide +kernel
theorem dX12_init_606 : decode cX12_init 606 = .ok (.getfield 20, 3) := by decide +kernel
theorem dX12_init_609 : decode cX12_init 609 = .ok (.bipush 47, 2) := by decide +kernel
theorem dX12_init_611 : decode cX12_init 611 = .ok (.iconst 5, 1) := by decide +kernel
theorem dX12_init_612 : decode cX12_init 612 = .ok (.iastore, 1) := by decide +kernel
theorem dX12_init_613 : decode cX12_init 613 = .ok (.aload_n 0, 1) := by decide +kernel
theorem dX12_init_614 : decode cX12_init 614 = .ok (.getfield 20, 3) := by decide +kernel
theorem dX12_init_617 : decode cX12_init 617 = .ok (.bipush 48, 2) := by decide +kernel
theorem dX12_init_619 : decode cX12_init 619 = .ok (.iconst 4, 1) := by decide +kernel
theorem dX12_init_620 : decode cX12_init 620 = .ok (.iastore, 1) := by decide +kernel
theorem dX12_init_621 : decode cX12_init 621 = .ok (.aload_n 0, 1) := by decide +kernel
theorem dX12_init_622 : decode cX12_init 622 = .ok (.getfield 20, 3) := by decide +kernel
theorem dX12_init_625 : decode cX12_init 625 = .ok (.bipush 49, 2) := by decide +kernel
theorem dX12_init_627 : decode cX12_init 627 = .ok (.bipush 6, 2) := by decide +kernel
theorem dX12_init_629 : decode cX12_init 629 = .ok (.iastore, 1) := by decide +kernel
theorem dX12_init_630 : decode cX12_init 630 = .ok (.iconst 0, 1) := by decide +kernel
theorem dX12_init_631 : decode cX12_init 631 = .ok (.istore_n 1, 1) := by decide +kernel
theorem dX12_init_632 : decode cX12_init 632 = .ok (.iload_n 1, 1) := by decide +kernel
theorem dX12_init_633 : decode cX12_init 633 = .ok (.bipush 30, 2) := by decide +kernel
theorem dX12_init_635 : decode cX12_init 635 = .ok (.if_icmp .ge 20, 3) := by decide +kernel
theorem dX12_init_638 : decode cX12_init 638 = .ok (.aload_n 0, 1) := by decide +kernel
theorem dX12_init_639 : decode cX12_init 639 = .ok (.getfield 20, 3) := by decide +kernel
theorem dX12_init_642 : decode cX12_init 642 = .ok (.bipush 50, 2) := by decide +kernel
theorem dX12_init_644 : decode cX12_init 644 = .ok (.iload_n 1, 1) := by decide +kernel
theorem dX12_init_645 : decode cX12_init 645 = .ok (.iadd, 1) := by decide +kernel
theorem dX12_init_646 : decode cX12_init 646 = .ok (.bipush 100, 2) := by decide +kernel
theorem dX12_init_648 : decode cX12_init 648 = .ok (.iastore, 1) := by decide +kernel
theorem dX12_init_649 : decode cX12_init 649 = .ok (.iinc 1 1, 3) := by decide +kernel
theorem dX12_init_652 : decode cX12_init 652 = .ok (.goto (-20), 3) := by decide +kernel
theorem dX12_init_655 : decode cX12_init 655 = .ok (.return_, 1) := by decide +kernel
set_option maxRecDepth 20000 in
set_option maxHeartbeats 4000000 in
def fnX12_init  (σ : qMem) : Option qMem :=
  (if ckN 7 7 = true then (nmM (si σ 0 1 1) fun s1 => (if ckN 1112 1112 = true then (nmM (si s1 0 3 1) fun s2 => (if ckN 2224 2224 = true then (nmM (si s2 0 4 1) fun s3 => (if ckN 2 2 = true then (nmM (si s3 0 5 1) fun s4 => (if ckN 20100 20100 = true then (nmM (si s4 0 6 1) fun s5 => (nmM (si s5 0 7 (-1)) fun s6 => (if ckN 144 144 = true then (nmM (si s6 0 9 1) fun s7 => (if ckN 50176 50176 = true then (nmM (si s7 0 11 1) fun s8 => (nmM (si s8 0 13 (-1)) fun s9 => (if ckN 50176 50176 = true then (nmM (si s9 0 14 1) fun s10 => (nmM (si s10 0 15 (-1)) fun s11 => (if ckN 81 81 = true then (nmM (si s11 0 16 1) fun s12 => (if ckN 24 24 = true then (nmM (si s12 0 17 1) fun s13 => (if ckN 24 24 = true then (nmM (si s13 0 18 1) fun s14 => (if ckN 24 24 = true then (nmM (si s14 0 19 1) fun s15 => (if ckN 24 24 = true then (nmM (si s15 0 21 1) fun s16 => (if ckN 6 6 = true then (nmM (si s16 0 22 1) fun s17 => (if ckN 36 36 = true then (nmM (si s17 0 23 1) fun s18 => (if ckN 6 6 = true then (nmM (si s18 0 24 1) fun s19 => (if ckN 57 57 = true then (nmM (si s19 17 (0 : Int32).toNatClampNeg (vp_nar .byte 110)) fun s20 => (nmM (si s20 17 (1 : Int32).toNatClampNeg (vp_nar .byte 111)) fun s21 => (nmM (si s21 17 (2 : Int32).toNatClampNeg (vp_nar .byte 105)) fun s22 => (nmM (si s22 17 (3 : Int32).toNatClampNeg (vp_nar .byte 115)) fun s23 => (nmM (si s23 17 (4 : Int32).toNatClampNeg (vp_nar .byte 101)) fun s24 => (nmM (si s24 17 (5 : Int32).toNatClampNeg (vp_nar .byte 32)) fun s25 => (nmM (si s25 17 (6 : Int32).toNatClampNeg (vp_nar .byte 108)) fun s26 => (nmM (si s26 17 (7 : Int32).toNatClampNeg (vp_nar .byte 111)) fun s27 => (nmM (si s27 17 (8 : Int32).toNatClampNeg (vp_nar .byte 115)) fun s28 => (nmM (si s28 17 (9 : Int32).toNatClampNeg (vp_nar .byte 115)) fun s29 => (nmM (si s29 17 (10 : Int32).toNatClampNeg (vp_nar .byte 32)) fun s30 => (nmM (si s30 17 (11 : Int32).toNatClampNeg (vp_nar .byte 101)) fun s31 => (nmM (si s31 17 (12 : Int32).toNatClampNeg (vp_nar .byte 97)) fun s32 => (nmM (si s32 17 (13 : Int32).toNatClampNeg (vp_nar .byte 114)) fun s33 => (nmM (si s33 17 (14 : Int32).toNatClampNeg (vp_nar .byte 32)) fun s34 => (nmM (si s34 17 (15 : Int32).toNatClampNeg (vp_nar .byte 105)) fun s35 => (nmM (si s35 17 (16 : Int32).toNatClampNeg (vp_nar .byte 102)) fun s36 => (nmM (si s36 17 (17 : Int32).toNatClampNeg (vp_nar .byte 32)) fun s37 => (nmM (si s37 17 (18 : Int32).toNatClampNeg (vp_nar .byte 111)) fun s38 => (nmM (si s38 17 (19 : Int32).toNatClampNeg (vp_nar .byte 114)) fun s39 => (nmM (si s39 17 (20 : Int32).toNatClampNeg (vp_nar .byte 32)) fun s40 => (nmM (si s40 17 (21 : Int32).toNatClampNeg (vp_nar .byte 97)) fun s41 => (nmM (si s41 17 (22 : Int32).toNatClampNeg (vp_nar .byte 110)) fun s42 => (nmM (si s42 17 (23 : Int32).toNatClampNeg (vp_nar .byte 100)) fun s43 => (nmM (si s43 17 (24 : Int32).toNatClampNeg (vp_nar .byte 32)) fun s44 => (nmM (si s44 17 (25 : Int32).toNatClampNeg (vp_nar .byte 110)) fun s45 => (nmM (si s45 17 (26 : Int32).toNatClampNeg (vp_nar .byte 111)) fun s46 => (nmM (si s46 17 (27 : Int32).toNatClampNeg (vp_nar .byte 116)) fun s47 => (nmM (si s47 17 (28 : Int32).toNatClampNeg (vp_nar .byte 32)) fun s48 => (nmM (si s48 17 (29 : Int32).toNatClampNeg (vp_nar .byte 115)) fun s49 => (nmM (si s49 17 (30 : Int32).toNatClampNeg (vp_nar .byte 112)) fun s50 => (nmM (si s50 17 (31 : Int32).toNatClampNeg (vp_nar .byte 101)) fun s51 => (nmM (si s51 17 (32 : Int32).toNatClampNeg (vp_nar .byte 101)) fun s52 => (nmM (si s52 17 (33 : Int32).toNatClampNeg (vp_nar .byte 100)) fun s53 => (nmM (si s53 17 (34 : Int32).toNatClampNeg (vp_nar .byte 32)) fun s54 => (nmM (si s54 17 (35 : Int32).toNatClampNeg (vp_nar .byte 100)) fun s55 => (nmM (si s55 17 (36 : Int32).toNatClampNeg (vp_nar .byte 101)) fun s56 => (nmM (si s56 17 (37 : Int32).toNatClampNeg (vp_nar .byte 112)) fun s57 => (nmM (si s57 17 (38 : Int32).toNatClampNeg (vp_nar .byte 116)) fun s58 => (nmM (si s58 17 (39 : Int32).toNatClampNeg (vp_nar .byte 104)) fun s59 => (nmM (si s59 17 (40 : Int32).toNatClampNeg (vp_nar .byte 32)) fun s60 => (nmM (si s60 17 (41 : Int32).toNatClampNeg (vp_nar .byte 114)) fun s61 => (nmM (si s61 17 (42 : Int32).toNatClampNeg (vp_nar .byte 97)) fun s62 => (nmM (si s62 17 (43 : Int32).toNatClampNeg (vp_nar .byte 110)) fun s63 => (nmM (si s63 17 (44 : Int32).toNatClampNeg (vp_nar .byte 103)) fun s64 => (nmM (si s64 17 (45 : Int32).toNatClampNeg (vp_nar .byte 101)) fun s65 => (nmM (si s65 17 (46 : Int32).toNatClampNeg (vp_nar .byte 32)) fun s66 => (nmM (si s66 17 (47 : Int32).toNatClampNeg (vp_nar .byte 98)) fun s67 => (nmM (si s67 17 (48 : Int32).toNatClampNeg (vp_nar .byte 101)) fun s68 => (nmM (si s68 17 (49 : Int32).toNatClampNeg (vp_nar .byte 108)) fun s69 => (nmM (si s69 17 (50 : Int32).toNatClampNeg (vp_nar .byte 108)) fun s70 => (nmM (si s70 17 (51 : Int32).toNatClampNeg (vp_nar .byte 32)) fun s71 => (nmM (si s71 17 (52 : Int32).toNatClampNeg (vp_nar .byte 98)) fun s72 => (nmM (si s72 17 (53 : Int32).toNatClampNeg (vp_nar .byte 111)) fun s73 => (nmM (si s73 17 (54 : Int32).toNatClampNeg (vp_nar .byte 97)) fun s74 => (nmM (si s74 17 (55 : Int32).toNatClampNeg (vp_nar .byte 116)) fun s75 => (nmM (si s75 17 (56 : Int32).toNatClampNeg (vp_nar .byte 32)) fun s76 => (nmM (si s76 0 25 1) fun s77 => (if ckN 400 400 = true then (nmM (si s77 0 26 1) fun s78 => (if ckN 5 5 = true then (nmM (si s78 0 27 1) fun s79 => (nmM (si s79 0 29 (-1)) fun s80 => (if ckN 401 401 = true then (nmM (si s80 0 30 1) fun s81 => (if ckN 401 401 = true then (nmM (si s81 0 31 1) fun s82 => (if ckN 401 401 = true then (nmM (si s82 0 32 1) fun s83 => (if ckN 5 5 = true then (nmM (si s83 0 40 1) fun s84 => (if ckN 201 201 = true then (nmM (si s84 0 41 1) fun s85 => (if ckN 6 6 = true then (nmM (si s85 0 42 1) fun s86 => (if ckN 6 6 = true then (nmM (si s86 0 43 1) fun s87 => (if ¬ gi s87 0 3 = 0 then (nmM (si s87 2 (2 : Int32).toNatClampNeg 5) fun s88 => (if ¬ gi s88 0 3 = 0 then (nmM (si s88 2 (24 : Int32).toNatClampNeg 5) fun s89 => (if ¬ gi s89 0 3 = 0 then (nmM (si s89 2 (44 : Int32).toNatClampNeg 1) fun s90 => (if ¬ gi s90 0 3 = 0 then (nmM (si s90 2 (45 : Int32).toNatClampNeg 1) fun s91 => (if ¬ gi s91 0 3 = 0 then (nmM (si s91 2 (47 : Int32).toNatClampNeg 5) fun s92 => (if ¬ gi s92 0 3 = 0 then (nmM (si s92 2 (48 : Int32).toNatClampNeg 4) fun s93 => (if ¬ gi s93 0 3 = 0 then (nmM (si s93 2 (49 : Int32).toNatClampNeg 6) fun s94 => (if ¬ gi s94 0 3 = 0 then (nmM (si s94 2 (50 : Int32).toNatClampNeg 100) fun s95 => (if ¬ gi s95 0 3 = 0 then (nmM (si s95 2 (51 : Int32).toNatClampNeg 100) fun s96 => (if ¬ gi s96 0 3 = 0 then (nmM (si s96 2 (52 : Int32).toNatClampNeg 100) fun s97 => (if ¬ gi s97 0 3 = 0 then (nmM (si s97 2 (53 : Int32).toNatClampNeg 100) fun s98 => (if ¬ gi s98 0 3 = 0 then (nmM (si s98 2 (54 : Int32).toNatClampNeg 100) fun s99 => (if ¬ gi s99 0 3 = 0 then (nmM (si s99 2 (55 : Int32).toNatClampNeg 100) fun s100 => (if ¬ gi s100 0 3 = 0 then (nmM (si s100 2 (56 : Int32).toNatClampNeg 100) fun s101 => (if ¬ gi s101 0 3 = 0 then (nmM (si s101 2 (57 : Int32).toNatClampNeg 100) fun s102 => (if ¬ gi s102 0 3 = 0 then (nmM (si s102 2 (58 : Int32).toNatClampNeg 100) fun s103 => (if ¬ gi s103 0 3 = 0 then (nmM (si s103 2 (59 : Int32).toNatClampNeg 100) fun s104 => (if ¬ gi s104 0 3 = 0 then (nmM (si s104 2 (60 : Int32).toNatClampNeg 100) fun s105 => (if ¬ gi s105 0 3 = 0 then (nmM (si s105 2 (61 : Int32).toNatClampNeg 100) fun s106 => (if ¬ gi s106 0 3 = 0 then (nmM (si s106 2 (62 : Int32).toNatClampNeg 100) fun s107 => (if ¬ gi s107 0 3 = 0 then (nmM (si s107 2 (63 : Int32).toNatClampNeg 100) fun s108 => (if ¬ gi s108 0 3 = 0 then (nmM (si s108 2 (64 : Int32).toNatClampNeg 100) fun s109 => (if ¬ gi s109 0 3 = 0 then (nmM (si s109 2 (65 : Int32).toNatClampNeg 100) fun s110 => (if ¬ gi s110 0 3 = 0 then (nmM (si s110 2 (66 : Int32).toNatClampNeg 100) fun s111 => (if ¬ gi s111 0 3 = 0 then (nmM (si s111 2 (67 : Int32).toNatClampNeg 100) fun s112 => (if ¬ gi s112 0 3 = 0 then (nmM (si s112 2 (68 : Int32).toNatClampNeg 100) fun s113 => (if ¬ gi s113 0 3 = 0 then (nmM (si s113 2 (69 : Int32).toNatClampNeg 100) fun s114 => (if ¬ gi s114 0 3 = 0 then (nmM (si s114 2 (70 : Int32).toNatClampNeg 100) fun s115 => (if ¬ gi s115 0 3 = 0 then (nmM (si s115 2 (71 : Int32).toNatClampNeg 100) fun s116 => (if ¬ gi s116 0 3 = 0 then (nmM (si s116 2 (72 : Int32).toNatClampNeg 100) fun s117 => (if ¬ gi s117 0 3 = 0 then (nmM (si s117 2 (73 : Int32).toNatClampNeg 100) fun s118 => (if ¬ gi s118 0 3 = 0 then (nmM (si s118 2 (74 : Int32).toNatClampNeg 100) fun s119 => (if ¬ gi s119 0 3 = 0 then (nmM (si s119 2 (75 : Int32).toNatClampNeg 100) fun s120 => (if ¬ gi s120 0 3 = 0 then (nmM (si s120 2 (76 : Int32).toNatClampNeg 100) fun s121 => (if ¬ gi s121 0 3 = 0 then (nmM (si s121 2 (77 : Int32).toNatClampNeg 100) fun s122 => (if ¬ gi s122 0 3 = 0 then (nmM (si s122 2 (78 : Int32).toNatClampNeg 100) fun s123 => (if ¬ gi s123 0 3 = 0 then (nmM (si s123 2 (79 : Int32).toNatClampNeg 100) fun s124 => (some s124)) else none)) else none)) else none)) else none)) else none)) else none)) else none)) else none)) else none)) else none)) else none)) else none)) else none)) else none)) else none)) else none)) else none)) else none)) else none)) else none)) else none)) else none)) else none)) else none)) else none)) else none)) else none)) else none)) else none)) else none)) else none)) else none)) else none)) else none)) else none)) else none)) else none)) else none)) else none)) else none)) else none)) else none)) else none)) else none))) else none)) else none))))))))))))))))))))))))))))))))))))))))))))))))))))))))))) else none)) else none)) else none)) else none)) else none)) else none)) else none)) else none)) else none))) else none))) else none)) else none))) else none)) else none)) else none)) else none)) else none)
set_option maxRecDepth 20000 in
set_option maxHeartbeats 4000000 in
theorem anX12_init   (σ : qMem) : qAn wM mX12_init 0 [(0, .ref 0)] [] 1 σ 0 0 27 26 126049 (fnX12_init  σ) := by
  unfold fnX12_init
  refine n_aload_n (i := 0) (x := 0) dX12_init_0 rfl 0 rfl ?_
  refine n_obj dX12_init_1 (g_6 92 (by decide +kernel) rfl) ob_in ob_co ⟨Nat.le_of_ble_eq_true rfl, Nat.le_of_ble_eq_true rfl⟩ ?_
  refine n_aload_n (i := 0) (x := 0) dX12_init_4 rfl 0 rfl ?_
  refine n_bipush (v := 7) dX12_init_5 (by decide) ?_
  refine n_newa (ty := .int) (t0 := 0) (N := 7) dX12_init_7 rfl ac_int (fun _ => rfl) (fun _ h => by cases h) zM_1 (by decide) (by decide) (fun _ _ => cB_int) ⟨by omega, by omega⟩ ?_
  refine n_cast (n2 := 2) (cl2 := 1) (sl2 := 7) rfl rfl rfl ?_
  refine n_putr (t := 1) dX12_init_9 fpX12_7 rfl fnX12_X12_1 (by first | exact Or.inl ⟨_, rfl⟩ | exact Or.inr ⟨_, rfl⟩) (by omega) zM_0 rfl ?_
  refine q_nmN (fun s1 => ?_)
  refine n_aload_n (i := 0) (x := 0) dX12_init_12 rfl 0 rfl ?_
  refine n_sipush (v := 1112) dX12_init_13 (by decide) ?_
  refine n_newa (ty := .int) (t0 := 0) (N := 1112) dX12_init_16 rfl ac_int (fun _ => rfl) (fun _ h => by cases h) zM_2 (by decide) (by decide) (fun _ _ => cB_int) ⟨by omega, by omega⟩ ?_
  refine n_cast (n2 := 3) (cl2 := 2) (sl2 := 1119) rfl rfl rfl ?_
  refine n_putr (t := 2) dX12_init_18 fpX12_20 rfl fnX12_X12_3 (by first | exact Or.inl ⟨_, rfl⟩ | exact Or.inr ⟨_, rfl⟩) (by omega) zM_0 rfl ?_
  refine q_nmN (fun s2 => ?_)
  refine n_aload_n (i := 0) (x := 0) dX12_init_21 rfl 0 rfl ?_
  refine n_sipush (v := 2224) dX12_init_22 (by decide) ?_
  refine n_newa (ty := .int) (t0 := 0) (N := 2224) dX12_init_25 rfl ac_int (fun _ => rfl) (fun _ h => by cases h) zM_3 (by decide) (by decide) (fun _ _ => cB_int) ⟨by omega, by omega⟩ ?_
  refine n_cast (n2 := 4) (cl2 := 3) (sl2 := 3343) rfl rfl rfl ?_
  refine n_putr (t := 3) dX12_init_27 fpX12_23 rfl fnX12_X12_4 (by first | exact Or.inl ⟨_, rfl⟩ | exact Or.inr ⟨_, rfl⟩) (by omega) zM_0 rfl ?_
  refine q_nmN (fun s3 => ?_)
  refine n_aload_n (i := 0) (x := 0) dX12_init_30 rfl 0 rfl ?_
  refine n_iconst (v := 2) dX12_init_31 (by decide) ?_
  refine n_newa (ty := .boolean) (t0 := 2) (N := 2) dX12_init_32 rfl ac_boolean (fun _ => rfl) (fun _ h => by cases h) zM_4 (by decide) (by decide) (fun _ _ => cB_bool) ⟨by omega, by omega⟩ ?_
  refine n_cast (n2 := 5) (cl2 := 4) (sl2 := 3345) rfl rfl rfl ?_
  refine n_putr (t := 4) dX12_init_34 fpX12_26 rfl fnX12_X12_5 (by first | exact Or.inl ⟨_, rfl⟩ | exact Or.inr ⟨_, rfl⟩) (by omega) zM_0 rfl ?_
  refine q_nmN (fun s4 => ?_)
  refine n_aload_n (i := 0) (x := 0) dX12_init_37 rfl 0 rfl ?_
  refine n_sipush (v := 20100) dX12_init_38 (by decide) ?_
  refine n_newa (ty := .boolean) (t0 := 2) (N := 20100) dX12_init_41 rfl ac_boolean (fun _ => rfl) (fun _ h => by cases h) zM_5 (by decide) (by decide) (fun _ _ => cB_bool) ⟨by omega, by omega⟩ ?_
  refine n_cast (n2 := 6) (cl2 := 5) (sl2 := 23445) rfl rfl rfl ?_
  refine n_putr (t := 5) dX12_init_43 fpX12_30 rfl fnX12_X12_6 (by first | exact Or.inl ⟨_, rfl⟩ | exact Or.inr ⟨_, rfl⟩) (by omega) zM_0 rfl ?_
  refine q_nmN (fun s5 => ?_)
  refine n_aload_n (i := 0) (x := 0) dX12_init_46 rfl 0 rfl ?_
  refine n_iconst (v := (-1)) dX12_init_47 (by decide) ?_
  refine n_puti dX12_init_48 fpX12_33 rfl fnX12_X12_7 (by omega) zM_0 rfl ?_
  refine q_nmN (fun s6 => ?_)
  refine n_aload_n (i := 0) (x := 0) dX12_init_51 rfl 0 rfl ?_
  refine n_sipush (v := 144) dX12_init_52 (by decide) ?_
  refine n_newa (ty := .int) (t0 := 0) (N := 144) dX12_init_55 rfl ac_int (fun _ => rfl) (fun _ h => by cases h) zM_6 (by decide) (by decide) (fun _ _ => cB_int) ⟨by omega, by omega⟩ ?_
  refine n_cast (n2 := 7) (cl2 := 6) (sl2 := 23589) rfl rfl rfl ?_
  refine n_putr (t := 6) dX12_init_57 fpX12_36 rfl fnX12_X12_9 (by first | exact Or.inl ⟨_, rfl⟩ | exact Or.inr ⟨_, rfl⟩) (by omega) zM_0 rfl ?_
  refine q_nmN (fun s7 => ?_)
  refine n_aload_n (i := 0) (x := 0) dX12_init_60 rfl 0 rfl ?_
  refine n_ldc (v := 50176) dX12_init_61 (g_6 93 (by decide +kernel) rfl) ?_
  refine n_newa (ty := .boolean) (t0 := 2) (N := 50176) dX12_init_63 rfl ac_boolean (fun _ => rfl) (fun _ h => by cases h) zM_7 (by decide) (by decide) (fun _ _ => cB_bool) ⟨by omega, by omega⟩ ?_
  refine n_cast (n2 := 8) (cl2 := 7) (sl2 := 73765) rfl rfl rfl ?_
  refine n_putr (t := 7) dX12_init_65 fpX12_40 rfl fnX12_X12_11 (by first | exact Or.inl ⟨_, rfl⟩ | exact Or.inr ⟨_, rfl⟩) (by omega) zM_0 rfl ?_
  refine q_nmN (fun s8 => ?_)
  refine n_aload_n (i := 0) (x := 0) dX12_init_68 rfl 0 rfl ?_
  refine n_iconst (v := (-1)) dX12_init_69 (by decide) ?_
  refine n_puti dX12_init_70 fpX12_43 rfl fnX12_X12_13 (by omega) zM_0 rfl ?_
  refine q_nmN (fun s9 => ?_)
  refine n_aload_n (i := 0) (x := 0) dX12_init_73 rfl 0 rfl ?_
  refine n_ldc (v := 50176) dX12_init_74 (g_6 93 (by decide +kernel) rfl) ?_
  refine n_newa (ty := .byte) (t0 := 3) (N := 50176) dX12_init_76 rfl ac_byte (fun _ => rfl) (fun _ h => by cases h) zM_8 (by decide) (by decide) (fun _ _ => cB_byte) ⟨by omega, by omega⟩ ?_
  refine n_cast (n2 := 9) (cl2 := 8) (sl2 := 123941) rfl rfl rfl ?_
  refine n_putr (t := 8) dX12_init_78 fpX12_46 rfl fnX12_X12_14 (by first | exact Or.inl ⟨_, rfl⟩ | exact Or.inr ⟨_, rfl⟩) (by omega) zM_0 rfl ?_
  refine q_nmN (fun s10 => ?_)
  refine n_aload_n (i := 0) (x := 0) dX12_init_81 rfl 0 rfl ?_
  refine n_iconst (v := (-1)) dX12_init_82 (by decide) ?_
  refine n_puti dX12_init_83 fpX12_50 rfl fnX12_X12_15 (by omega) zM_0 rfl ?_
  refine q_nmN (fun s11 => ?_)
  refine n_aload_n (i := 0) (x := 0) dX12_init_86 rfl 0 rfl ?_
  refine n_bipush (v := 81) dX12_init_87 (by decide) ?_
  refine n_newa (ty := .int) (t0 := 0) (N := 81) dX12_init_89 rfl ac_int (fun _ => rfl) (fun _ h => by cases h) zM_9 (by decide) (by decide) (fun _ _ => cB_int) ⟨by omega, by omega⟩ ?_
  refine n_cast (n2 := 10) (cl2 := 9) (sl2 := 124022) rfl rfl rfl ?_
  refine n_putr (t := 9) dX12_init_91 fpX12_53 rfl fnX12_X12_16 (by first | exact Or.inl ⟨_, rfl⟩ | exact Or.inr ⟨_, rfl⟩) (by omega) zM_0 rfl ?_
  refine q_nmN (fun s12 => ?_)
  refine n_aload_n (i := 0) (x := 0) dX12_init_94 rfl 0 rfl ?_
  refine n_bipush (v := 24) dX12_init_95 (by decide) ?_
  refine n_newa (ty := .int) (t0 := 0) (N := 24) dX12_init_97 rfl ac_int (fun _ => rfl) (fun _ h => by cases h) zM_10 (by decide) (by decide) (fun _ _ => cB_int) ⟨by omega, by omega⟩ ?_
  refine n_cast (n2 := 11) (cl2 := 10) (sl2 := 124046) rfl rfl rfl ?_
  refine n_putr (t := 10) dX12_init_99 fpX12_56 rfl fnX12_X12_17 (by first | exact Or.inl ⟨_, rfl⟩ | exact Or.inr ⟨_, rfl⟩) (by omega) zM_0 rfl ?_
  refine q_nmN (fun s13 => ?_)
  refine n_aload_n (i := 0) (x := 0) dX12_init_102 rfl 0 rfl ?_
  refine n_bipush (v := 24) dX12_init_103 (by decide) ?_
  refine n_newa (ty := .int) (t0 := 0) (N := 24) dX12_init_105 rfl ac_int (fun _ => rfl) (fun _ h => by cases h) zM_11 (by decide) (by decide) (fun _ _ => cB_int) ⟨by omega, by omega⟩ ?_
  refine n_cast (n2 := 12) (cl2 := 11) (sl2 := 124070) rfl rfl rfl ?_
  refine n_putr (t := 11) dX12_init_107 fpX12_59 rfl fnX12_X12_18 (by first | exact Or.inl ⟨_, rfl⟩ | exact Or.inr ⟨_, rfl⟩) (by omega) zM_0 rfl ?_
  refine q_nmN (fun s14 => ?_)
  refine n_aload_n (i := 0) (x := 0) dX12_init_110 rfl 0 rfl ?_
  refine n_bipush (v := 24) dX12_init_111 (by decide) ?_
  refine n_newa (ty := .int) (t0 := 0) (N := 24) dX12_init_113 rfl ac_int (fun _ => rfl) (fun _ h => by cases h) zM_12 (by decide) (by decide) (fun _ _ => cB_int) ⟨by omega, by omega⟩ ?_
  refine n_cast (n2 := 13) (cl2 := 12) (sl2 := 124094) rfl rfl rfl ?_
  refine n_putr (t := 12) dX12_init_115 fpX12_62 rfl fnX12_X12_19 (by first | exact Or.inl ⟨_, rfl⟩ | exact Or.inr ⟨_, rfl⟩) (by omega) zM_0 rfl ?_
  refine q_nmN (fun s15 => ?_)
  refine n_aload_n (i := 0) (x := 0) dX12_init_118 rfl 0 rfl ?_
  refine n_bipush (v := 24) dX12_init_119 (by decide) ?_
  refine n_newa (ty := .int) (t0 := 0) (N := 24) dX12_init_121 rfl ac_int (fun _ => rfl) (fun _ h => by cases h) zM_13 (by decide) (by decide) (fun _ _ => cB_int) ⟨by omega, by omega⟩ ?_
  refine n_cast (n2 := 14) (cl2 := 13) (sl2 := 124118) rfl rfl rfl ?_
  refine n_putr (t := 13) dX12_init_123 fpX12_65 rfl fnX12_X12_21 (by first | exact Or.inl ⟨_, rfl⟩ | exact Or.inr ⟨_, rfl⟩) (by omega) zM_0 rfl ?_
  refine q_nmN (fun s16 => ?_)
  refine n_aload_n (i := 0) (x := 0) dX12_init_126 rfl 0 rfl ?_
  refine n_bipush (v := 6) dX12_init_127 (by decide) ?_
  refine n_newa (ty := .int) (t0 := 0) (N := 6) dX12_init_129 rfl ac_int (fun _ => rfl) (fun _ h => by cases h) zM_14 (by decide) (by decide) (fun _ _ => cB_int) ⟨by omega, by omega⟩ ?_
  refine n_cast (n2 := 15) (cl2 := 14) (sl2 := 124124) rfl rfl rfl ?_
  refine n_putr (t := 14) dX12_init_131 fpX12_68 rfl fnX12_X12_22 (by first | exact Or.inl ⟨_, rfl⟩ | exact Or.inr ⟨_, rfl⟩) (by omega) zM_0 rfl ?_
  refine q_nmN (fun s17 => ?_)
  refine n_aload_n (i := 0) (x := 0) dX12_init_134 rfl 0 rfl ?_
  refine n_bipush (v := 36) dX12_init_135 (by decide) ?_
  refine n_newa (ty := .int) (t0 := 0) (N := 36) dX12_init_137 rfl ac_int (fun _ => rfl) (fun _ h => by cases h) zM_15 (by decide) (by decide) (fun _ _ => cB_int) ⟨by omega, by omega⟩ ?_
  refine n_cast (n2 := 16) (cl2 := 15) (sl2 := 124160) rfl rfl rfl ?_
  refine n_putr (t := 15) dX12_init_139 fpX12_71 rfl fnX12_X12_23 (by first | exact Or.inl ⟨_, rfl⟩ | exact Or.inr ⟨_, rfl⟩) (by omega) zM_0 rfl ?_
  refine q_nmN (fun s18 => ?_)
  refine n_aload_n (i := 0) (x := 0) dX12_init_142 rfl 0 rfl ?_
  refine n_bipush (v := 6) dX12_init_143 (by decide) ?_
  refine n_newa (ty := .int) (t0 := 0) (N := 6) dX12_init_145 rfl ac_int (fun _ => rfl) (fun _ h => by cases h) zM_16 (by decide) (by decide) (fun _ _ => cB_int) ⟨by omega, by omega⟩ ?_
  refine n_cast (n2 := 17) (cl2 := 16) (sl2 := 124166) rfl rfl rfl ?_
  refine n_putr (t := 16) dX12_init_147 fpX12_74 rfl fnX12_X12_24 (by first | exact Or.inl ⟨_, rfl⟩ | exact Or.inr ⟨_, rfl⟩) (by omega) zM_0 rfl ?_
  refine q_nmN (fun s19 => ?_)
  refine n_aload_n (i := 0) (x := 0) dX12_init_150 rfl 0 rfl ?_
  refine n_bipush (v := 57) dX12_init_151 (by decide) ?_
  refine n_newa (ty := .byte) (t0 := 3) (N := 57) dX12_init_153 rfl ac_byte (fun _ => rfl) (fun _ h => by cases h) zM_17 (by decide) (by decide) (fun _ _ => cB_byte) ⟨by omega, by omega⟩ ?_
  refine n_cast (n2 := 18) (cl2 := 17) (sl2 := 124223) rfl rfl rfl ?_
  refine n_dup dX12_init_155 rfl ?_
  refine n_iconst (v := 0) dX12_init_156 (by decide) ?_
  refine n_bipush (v := 110) dX12_init_157 (by decide) ?_
  refine n_bast dX12_init_159 (by omega) zM_17 (by decide) ?_
  refine q_nmN (fun s20 => ?_)
  refine n_dup dX12_init_160 rfl ?_
  refine n_iconst (v := 1) dX12_init_161 (by decide) ?_
  refine n_bipush (v := 111) dX12_init_162 (by decide) ?_
  refine n_bast dX12_init_164 (by omega) zM_17 (by decide) ?_
  refine q_nmN (fun s21 => ?_)
  refine n_dup dX12_init_165 rfl ?_
  refine n_iconst (v := 2) dX12_init_166 (by decide) ?_
  refine n_bipush (v := 105) dX12_init_167 (by decide) ?_
  refine n_bast dX12_init_169 (by omega) zM_17 (by decide) ?_
  refine q_nmN (fun s22 => ?_)
  refine n_dup dX12_init_170 rfl ?_
  refine n_iconst (v := 3) dX12_init_171 (by decide) ?_
  refine n_bipush (v := 115) dX12_init_172 (by decide) ?_
  refine n_bast dX12_init_174 (by omega) zM_17 (by decide) ?_
  refine q_nmN (fun s23 => ?_)
  refine n_dup dX12_init_175 rfl ?_
  refine n_iconst (v := 4) dX12_init_176 (by decide) ?_
  refine n_bipush (v := 101) dX12_init_177 (by decide) ?_
  refine n_bast dX12_init_179 (by omega) zM_17 (by decide) ?_
  refine q_nmN (fun s24 => ?_)
  refine n_dup dX12_init_180 rfl ?_
  refine n_iconst (v := 5) dX12_init_181 (by decide) ?_
  refine n_bipush (v := 32) dX12_init_182 (by decide) ?_
  refine n_bast dX12_init_184 (by omega) zM_17 (by decide) ?_
  refine q_nmN (fun s25 => ?_)
  refine n_dup dX12_init_185 rfl ?_
  refine n_bipush (v := 6) dX12_init_186 (by decide) ?_
  refine n_bipush (v := 108) dX12_init_188 (by decide) ?_
  refine n_bast dX12_init_190 (by omega) zM_17 (by decide) ?_
  refine q_nmN (fun s26 => ?_)
  refine n_dup dX12_init_191 rfl ?_
  refine n_bipush (v := 7) dX12_init_192 (by decide) ?_
  refine n_bipush (v := 111) dX12_init_194 (by decide) ?_
  refine n_bast dX12_init_196 (by omega) zM_17 (by decide) ?_
  refine q_nmN (fun s27 => ?_)
  refine n_dup dX12_init_197 rfl ?_
  refine n_bipush (v := 8) dX12_init_198 (by decide) ?_
  refine n_bipush (v := 115) dX12_init_200 (by decide) ?_
  refine n_bast dX12_init_202 (by omega) zM_17 (by decide) ?_
  refine q_nmN (fun s28 => ?_)
  refine n_dup dX12_init_203 rfl ?_
  refine n_bipush (v := 9) dX12_init_204 (by decide) ?_
  refine n_bipush (v := 115) dX12_init_206 (by decide) ?_
  refine n_bast dX12_init_208 (by omega) zM_17 (by decide) ?_
  refine q_nmN (fun s29 => ?_)
  refine n_dup dX12_init_209 rfl ?_
  refine n_bipush (v := 10) dX12_init_210 (by decide) ?_
  refine n_bipush (v := 32) dX12_init_212 (by decide) ?_
  refine n_bast dX12_init_214 (by omega) zM_17 (by decide) ?_
  refine q_nmN (fun s30 => ?_)
  refine n_dup dX12_init_215 rfl ?_
  refine n_bipush (v := 11) dX12_init_216 (by decide) ?_
  refine n_bipush (v := 101) dX12_init_218 (by decide) ?_
  refine n_bast dX12_init_220 (by omega) zM_17 (by decide) ?_
  refine q_nmN (fun s31 => ?_)
  refine n_dup dX12_init_221 rfl ?_
  refine n_bipush (v := 12) dX12_init_222 (by decide) ?_
  refine n_bipush (v := 97) dX12_init_224 (by decide) ?_
  refine n_bast dX12_init_226 (by omega) zM_17 (by decide) ?_
  refine q_nmN (fun s32 => ?_)
  refine n_dup dX12_init_227 rfl ?_
  refine n_bipush (v := 13) dX12_init_228 (by decide) ?_
  refine n_bipush (v := 114) dX12_init_230 (by decide) ?_
  refine n_bast dX12_init_232 (by omega) zM_17 (by decide) ?_
  refine q_nmN (fun s33 => ?_)
  refine n_dup dX12_init_233 rfl ?_
  refine n_bipush (v := 14) dX12_init_234 (by decide) ?_
  refine n_bipush (v := 32) dX12_init_236 (by decide) ?_
  refine n_bast dX12_init_238 (by omega) zM_17 (by decide) ?_
  refine q_nmN (fun s34 => ?_)
  refine n_dup dX12_init_239 rfl ?_
  refine n_bipush (v := 15) dX12_init_240 (by decide) ?_
  refine n_bipush (v := 105) dX12_init_242 (by decide) ?_
  refine n_bast dX12_init_244 (by omega) zM_17 (by decide) ?_
  refine q_nmN (fun s35 => ?_)
  refine n_dup dX12_init_245 rfl ?_
  refine n_bipush (v := 16) dX12_init_246 (by decide) ?_
  refine n_bipush (v := 102) dX12_init_248 (by decide) ?_
  refine n_bast dX12_init_250 (by omega) zM_17 (by decide) ?_
  refine q_nmN (fun s36 => ?_)
  refine n_dup dX12_init_251 rfl ?_
  refine n_bipush (v := 17) dX12_init_252 (by decide) ?_
  refine n_bipush (v := 32) dX12_init_254 (by decide) ?_
  refine n_bast dX12_init_256 (by omega) zM_17 (by decide) ?_
  refine q_nmN (fun s37 => ?_)
  refine n_dup dX12_init_257 rfl ?_
  refine n_bipush (v := 18) dX12_init_258 (by decide) ?_
  refine n_bipush (v := 111) dX12_init_260 (by decide) ?_
  refine n_bast dX12_init_262 (by omega) zM_17 (by decide) ?_
  refine q_nmN (fun s38 => ?_)
  refine n_dup dX12_init_263 rfl ?_
  refine n_bipush (v := 19) dX12_init_264 (by decide) ?_
  refine n_bipush (v := 114) dX12_init_266 (by decide) ?_
  refine n_bast dX12_init_268 (by omega) zM_17 (by decide) ?_
  refine q_nmN (fun s39 => ?_)
  refine n_dup dX12_init_269 rfl ?_
  refine n_bipush (v := 20) dX12_init_270 (by decide) ?_
  refine n_bipush (v := 32) dX12_init_272 (by decide) ?_
  refine n_bast dX12_init_274 (by omega) zM_17 (by decide) ?_
  refine q_nmN (fun s40 => ?_)
  refine n_dup dX12_init_275 rfl ?_
  refine n_bipush (v := 21) dX12_init_276 (by decide) ?_
  refine n_bipush (v := 97) dX12_init_278 (by decide) ?_
  refine n_bast dX12_init_280 (by omega) zM_17 (by decide) ?_
  refine q_nmN (fun s41 => ?_)
  refine n_dup dX12_init_281 rfl ?_
  refine n_bipush (v := 22) dX12_init_282 (by decide) ?_
  refine n_bipush (v := 110) dX12_init_284 (by decide) ?_
  refine n_bast dX12_init_286 (by omega) zM_17 (by decide) ?_
  refine q_nmN (fun s42 => ?_)
  refine n_dup dX12_init_287 rfl ?_
  refine n_bipush (v := 23) dX12_init_288 (by decide) ?_
  refine n_bipush (v := 100) dX12_init_290 (by decide) ?_
  refine n_bast dX12_init_292 (by omega) zM_17 (by decide) ?_
  refine q_nmN (fun s43 => ?_)
  refine n_dup dX12_init_293 rfl ?_
  refine n_bipush (v := 24) dX12_init_294 (by decide) ?_
  refine n_bipush (v := 32) dX12_init_296 (by decide) ?_
  refine n_bast dX12_init_298 (by omega) zM_17 (by decide) ?_
  refine q_nmN (fun s44 => ?_)
  refine n_dup dX12_init_299 rfl ?_
  refine n_bipush (v := 25) dX12_init_300 (by decide) ?_
  refine n_bipush (v := 110) dX12_init_302 (by decide) ?_
  refine n_bast dX12_init_304 (by omega) zM_17 (by decide) ?_
  refine q_nmN (fun s45 => ?_)
  refine n_dup dX12_init_305 rfl ?_
  refine n_bipush (v := 26) dX12_init_306 (by decide) ?_
  refine n_bipush (v := 111) dX12_init_308 (by decide) ?_
  refine n_bast dX12_init_310 (by omega) zM_17 (by decide) ?_
  refine q_nmN (fun s46 => ?_)
  refine n_dup dX12_init_311 rfl ?_
  refine n_bipush (v := 27) dX12_init_312 (by decide) ?_
  refine n_bipush (v := 116) dX12_init_314 (by decide) ?_
  refine n_bast dX12_init_316 (by omega) zM_17 (by decide) ?_
  refine q_nmN (fun s47 => ?_)
  refine n_dup dX12_init_317 rfl ?_
  refine n_bipush (v := 28) dX12_init_318 (by decide) ?_
  refine n_bipush (v := 32) dX12_init_320 (by decide) ?_
  refine n_bast dX12_init_322 (by omega) zM_17 (by decide) ?_
  refine q_nmN (fun s48 => ?_)
  refine n_dup dX12_init_323 rfl ?_
  refine n_bipush (v := 29) dX12_init_324 (by decide) ?_
  refine n_bipush (v := 115) dX12_init_326 (by decide) ?_
  refine n_bast dX12_init_328 (by omega) zM_17 (by decide) ?_
  refine q_nmN (fun s49 => ?_)
  refine n_dup dX12_init_329 rfl ?_
  refine n_bipush (v := 30) dX12_init_330 (by decide) ?_
  refine n_bipush (v := 112) dX12_init_332 (by decide) ?_
  refine n_bast dX12_init_334 (by omega) zM_17 (by decide) ?_
  refine q_nmN (fun s50 => ?_)
  refine n_dup dX12_init_335 rfl ?_
  refine n_bipush (v := 31) dX12_init_336 (by decide) ?_
  refine n_bipush (v := 101) dX12_init_338 (by decide) ?_
  refine n_bast dX12_init_340 (by omega) zM_17 (by decide) ?_
  refine q_nmN (fun s51 => ?_)
  refine n_dup dX12_init_341 rfl ?_
  refine n_bipush (v := 32) dX12_init_342 (by decide) ?_
  refine n_bipush (v := 101) dX12_init_344 (by decide) ?_
  refine n_bast dX12_init_346 (by omega) zM_17 (by decide) ?_
  refine q_nmN (fun s52 => ?_)
  refine n_dup dX12_init_347 rfl ?_
  refine n_bipush (v := 33) dX12_init_348 (by decide) ?_
  refine n_bipush (v := 100) dX12_init_350 (by decide) ?_
  refine n_bast dX12_init_352 (by omega) zM_17 (by decide) ?_
  refine q_nmN (fun s53 => ?_)
  refine n_dup dX12_init_353 rfl ?_
  refine n_bipush (v := 34) dX12_init_354 (by decide) ?_
  refine n_bipush (v := 32) dX12_init_356 (by decide) ?_
  refine n_bast dX12_init_358 (by omega) zM_17 (by decide) ?_
  refine q_nmN (fun s54 => ?_)
  refine n_dup dX12_init_359 rfl ?_
  refine n_bipush (v := 35) dX12_init_360 (by decide) ?_
  refine n_bipush (v := 100) dX12_init_362 (by decide) ?_
  refine n_bast dX12_init_364 (by omega) zM_17 (by decide) ?_
  refine q_nmN (fun s55 => ?_)
  refine n_dup dX12_init_365 rfl ?_
  refine n_bipush (v := 36) dX12_init_366 (by decide) ?_
  refine n_bipush (v := 101) dX12_init_368 (by decide) ?_
  refine n_bast dX12_init_370 (by omega) zM_17 (by decide) ?_
  refine q_nmN (fun s56 => ?_)
  refine n_dup dX12_init_371 rfl ?_
  refine n_bipush (v := 37) dX12_init_372 (by decide) ?_
  refine n_bipush (v := 112) dX12_init_374 (by decide) ?_
  refine n_bast dX12_init_376 (by omega) zM_17 (by decide) ?_
  refine q_nmN (fun s57 => ?_)
  refine n_dup dX12_init_377 rfl ?_
  refine n_bipush (v := 38) dX12_init_378 (by decide) ?_
  refine n_bipush (v := 116) dX12_init_380 (by decide) ?_
  refine n_bast dX12_init_382 (by omega) zM_17 (by decide) ?_
  refine q_nmN (fun s58 => ?_)
  refine n_dup dX12_init_383 rfl ?_
  refine n_bipush (v := 39) dX12_init_384 (by decide) ?_
  refine n_bipush (v := 104) dX12_init_386 (by decide) ?_
  refine n_bast dX12_init_388 (by omega) zM_17 (by decide) ?_
  refine q_nmN (fun s59 => ?_)
  refine n_dup dX12_init_389 rfl ?_
  refine n_bipush (v := 40) dX12_init_390 (by decide) ?_
  refine n_bipush (v := 32) dX12_init_392 (by decide) ?_
  refine n_bast dX12_init_394 (by omega) zM_17 (by decide) ?_
  refine q_nmN (fun s60 => ?_)
  refine n_dup dX12_init_395 rfl ?_
  refine n_bipush (v := 41) dX12_init_396 (by decide) ?_
  refine n_bipush (v := 114) dX12_init_398 (by decide) ?_
  refine n_bast dX12_init_400 (by omega) zM_17 (by decide) ?_
  refine q_nmN (fun s61 => ?_)
  refine n_dup dX12_init_401 rfl ?_
  refine n_bipush (v := 42) dX12_init_402 (by decide) ?_
  refine n_bipush (v := 97) dX12_init_404 (by decide) ?_
  refine n_bast dX12_init_406 (by omega) zM_17 (by decide) ?_
  refine q_nmN (fun s62 => ?_)
  refine n_dup dX12_init_407 rfl ?_
  refine n_bipush (v := 43) dX12_init_408 (by decide) ?_
  refine n_bipush (v := 110) dX12_init_410 (by decide) ?_
  refine n_bast dX12_init_412 (by omega) zM_17 (by decide) ?_
  refine q_nmN (fun s63 => ?_)
  refine n_dup dX12_init_413 rfl ?_
  refine n_bipush (v := 44) dX12_init_414 (by decide) ?_
  refine n_bipush (v := 103) dX12_init_416 (by decide) ?_
  refine n_bast dX12_init_418 (by omega) zM_17 (by decide) ?_
  refine q_nmN (fun s64 => ?_)
  refine n_dup dX12_init_419 rfl ?_
  refine n_bipush (v := 45) dX12_init_420 (by decide) ?_
  refine n_bipush (v := 101) dX12_init_422 (by decide) ?_
  refine n_bast dX12_init_424 (by omega) zM_17 (by decide) ?_
  refine q_nmN (fun s65 => ?_)
  refine n_dup dX12_init_425 rfl ?_
  refine n_bipush (v := 46) dX12_init_426 (by decide) ?_
  refine n_bipush (v := 32) dX12_init_428 (by decide) ?_
  refine n_bast dX12_init_430 (by omega) zM_17 (by decide) ?_
  refine q_nmN (fun s66 => ?_)
  refine n_dup dX12_init_431 rfl ?_
  refine n_bipush (v := 47) dX12_init_432 (by decide) ?_
  refine n_bipush (v := 98) dX12_init_434 (by decide) ?_
  refine n_bast dX12_init_436 (by omega) zM_17 (by decide) ?_
  refine q_nmN (fun s67 => ?_)
  refine n_dup dX12_init_437 rfl ?_
  refine n_bipush (v := 48) dX12_init_438 (by decide) ?_
  refine n_bipush (v := 101) dX12_init_440 (by decide) ?_
  refine n_bast dX12_init_442 (by omega) zM_17 (by decide) ?_
  refine q_nmN (fun s68 => ?_)
  refine n_dup dX12_init_443 rfl ?_
  refine n_bipush (v := 49) dX12_init_444 (by decide) ?_
  refine n_bipush (v := 108) dX12_init_446 (by decide) ?_
  refine n_bast dX12_init_448 (by omega) zM_17 (by decide) ?_
  refine q_nmN (fun s69 => ?_)
  refine n_dup dX12_init_449 rfl ?_
  refine n_bipush (v := 50) dX12_init_450 (by decide) ?_
  refine n_bipush (v := 108) dX12_init_452 (by decide) ?_
  refine n_bast dX12_init_454 (by omega) zM_17 (by decide) ?_
  refine q_nmN (fun s70 => ?_)
  refine n_dup dX12_init_455 rfl ?_
  refine n_bipush (v := 51) dX12_init_456 (by decide) ?_
  refine n_bipush (v := 32) dX12_init_458 (by decide) ?_
  refine n_bast dX12_init_460 (by omega) zM_17 (by decide) ?_
  refine q_nmN (fun s71 => ?_)
  refine n_dup dX12_init_461 rfl ?_
  refine n_bipush (v := 52) dX12_init_462 (by decide) ?_
  refine n_bipush (v := 98) dX12_init_464 (by decide) ?_
  refine n_bast dX12_init_466 (by omega) zM_17 (by decide) ?_
  refine q_nmN (fun s72 => ?_)
  refine n_dup dX12_init_467 rfl ?_
  refine n_bipush (v := 53) dX12_init_468 (by decide) ?_
  refine n_bipush (v := 111) dX12_init_470 (by decide) ?_
  refine n_bast dX12_init_472 (by omega) zM_17 (by decide) ?_
  refine q_nmN (fun s73 => ?_)
  refine n_dup dX12_init_473 rfl ?_
  refine n_bipush (v := 54) dX12_init_474 (by decide) ?_
  refine n_bipush (v := 97) dX12_init_476 (by decide) ?_
  refine n_bast dX12_init_478 (by omega) zM_17 (by decide) ?_
  refine q_nmN (fun s74 => ?_)
  refine n_dup dX12_init_479 rfl ?_
  refine n_bipush (v := 55) dX12_init_480 (by decide) ?_
  refine n_bipush (v := 116) dX12_init_482 (by decide) ?_
  refine n_bast dX12_init_484 (by omega) zM_17 (by decide) ?_
  refine q_nmN (fun s75 => ?_)
  refine n_dup dX12_init_485 rfl ?_
  refine n_bipush (v := 56) dX12_init_486 (by decide) ?_
  refine n_bipush (v := 32) dX12_init_488 (by decide) ?_
  refine n_bast dX12_init_490 (by omega) zM_17 (by decide) ?_
  refine q_nmN (fun s76 => ?_)
  refine n_putr (t := 17) dX12_init_491 fpX12_77 rfl fnX12_X12_25 (by first | exact Or.inl ⟨_, rfl⟩ | exact Or.inr ⟨_, rfl⟩) (by omega) zM_0 rfl ?_
  refine q_nmN (fun s77 => ?_)
  refine n_aload_n (i := 0) (x := 0) dX12_init_494 rfl 0 rfl ?_
  refine n_sipush (v := 400) dX12_init_495 (by decide) ?_
  refine n_newa (ty := .byte) (t0 := 3) (N := 400) dX12_init_498 rfl ac_byte (fun _ => rfl) (fun _ h => by cases h) zM_18 (by decide) (by decide) (fun _ _ => cB_byte) ⟨by omega, by omega⟩ ?_
  refine n_cast (n2 := 19) (cl2 := 18) (sl2 := 124623) rfl rfl rfl ?_
  refine n_putr (t := 18) dX12_init_500 fpX12_80 rfl fnX12_X12_26 (by first | exact Or.inl ⟨_, rfl⟩ | exact Or.inr ⟨_, rfl⟩) (by omega) zM_0 rfl ?_
  refine q_nmN (fun s78 => ?_)
  refine n_aload_n (i := 0) (x := 0) dX12_init_503 rfl 0 rfl ?_
  refine n_iconst (v := 5) dX12_init_504 (by decide) ?_
  refine n_newa (ty := .int) (t0 := 0) (N := 5) dX12_init_505 rfl ac_int (fun _ => rfl) (fun _ h => by cases h) zM_19 (by decide) (by decide) (fun _ _ => cB_int) ⟨by omega, by omega⟩ ?_
  refine n_cast (n2 := 20) (cl2 := 19) (sl2 := 124628) rfl rfl rfl ?_
  refine n_putr (t := 19) dX12_init_507 fpX12_83 rfl fnX12_X12_27 (by first | exact Or.inl ⟨_, rfl⟩ | exact Or.inr ⟨_, rfl⟩) (by omega) zM_0 rfl ?_
  refine q_nmN (fun s79 => ?_)
  refine n_aload_n (i := 0) (x := 0) dX12_init_510 rfl 0 rfl ?_
  refine n_iconst (v := (-1)) dX12_init_511 (by decide) ?_
  refine n_puti dX12_init_512 fpX12_86 rfl fnX12_X12_29 (by omega) zM_0 rfl ?_
  refine q_nmN (fun s80 => ?_)
  refine n_aload_n (i := 0) (x := 0) dX12_init_515 rfl 0 rfl ?_
  refine n_sipush (v := 401) dX12_init_516 (by decide) ?_
  refine n_newa (ty := .int) (t0 := 0) (N := 401) dX12_init_519 rfl ac_int (fun _ => rfl) (fun _ h => by cases h) zM_20 (by decide) (by decide) (fun _ _ => cB_int) ⟨by omega, by omega⟩ ?_
  refine n_cast (n2 := 21) (cl2 := 20) (sl2 := 125029) rfl rfl rfl ?_
  refine n_putr (t := 20) dX12_init_521 fpX12_89 rfl fnX12_X12_30 (by first | exact Or.inl ⟨_, rfl⟩ | exact Or.inr ⟨_, rfl⟩) (by omega) zM_0 rfl ?_
  refine q_nmN (fun s81 => ?_)
  refine n_aload_n (i := 0) (x := 0) dX12_init_524 rfl 0 rfl ?_
  refine n_sipush (v := 401) dX12_init_525 (by decide) ?_
  refine n_newa (ty := .int) (t0 := 0) (N := 401) dX12_init_528 rfl ac_int (fun _ => rfl) (fun _ h => by cases h) zM_21 (by decide) (by decide) (fun _ _ => cB_int) ⟨by omega, by omega⟩ ?_
  refine n_cast (n2 := 22) (cl2 := 21) (sl2 := 125430) rfl rfl rfl ?_
  refine n_putr (t := 21) dX12_init_530 fpX12_92 rfl fnX12_X12_31 (by first | exact Or.inl ⟨_, rfl⟩ | exact Or.inr ⟨_, rfl⟩) (by omega) zM_0 rfl ?_
  refine q_nmN (fun s82 => ?_)
  refine n_aload_n (i := 0) (x := 0) dX12_init_533 rfl 0 rfl ?_
  refine n_sipush (v := 401) dX12_init_534 (by decide) ?_
  refine n_newa (ty := .int) (t0 := 0) (N := 401) dX12_init_537 rfl ac_int (fun _ => rfl) (fun _ h => by cases h) zM_22 (by decide) (by decide) (fun _ _ => cB_int) ⟨by omega, by omega⟩ ?_
  refine n_cast (n2 := 23) (cl2 := 22) (sl2 := 125831) rfl rfl rfl ?_
  refine n_putr (t := 22) dX12_init_539 fpX12_95 rfl fnX12_X12_32 (by first | exact Or.inl ⟨_, rfl⟩ | exact Or.inr ⟨_, rfl⟩) (by omega) zM_0 rfl ?_
  refine q_nmN (fun s83 => ?_)
  refine n_aload_n (i := 0) (x := 0) dX12_init_542 rfl 0 rfl ?_
  refine n_iconst (v := 5) dX12_init_543 (by decide) ?_
  refine n_newa (ty := .int) (t0 := 0) (N := 5) dX12_init_544 rfl ac_int (fun _ => rfl) (fun _ h => by cases h) zM_23 (by decide) (by decide) (fun _ _ => cB_int) ⟨by omega, by omega⟩ ?_
  refine n_cast (n2 := 24) (cl2 := 23) (sl2 := 125836) rfl rfl rfl ?_
  refine n_putr (t := 23) dX12_init_546 fpX12_98 rfl fnX12_X12_40 (by first | exact Or.inl ⟨_, rfl⟩ | exact Or.inr ⟨_, rfl⟩) (by omega) zM_0 rfl ?_
  refine q_nmN (fun s84 => ?_)
  refine n_aload_n (i := 0) (x := 0) dX12_init_549 rfl 0 rfl ?_
  refine n_sipush (v := 201) dX12_init_550 (by decide) ?_
  refine n_newa (ty := .boolean) (t0 := 2) (N := 201) dX12_init_553 rfl ac_boolean (fun _ => rfl) (fun _ h => by cases h) zM_24 (by decide) (by decide) (fun _ _ => cB_bool) ⟨by omega, by omega⟩ ?_
  refine n_cast (n2 := 25) (cl2 := 24) (sl2 := 126037) rfl rfl rfl ?_
  refine n_putr (t := 24) dX12_init_555 fpX12_101 rfl fnX12_X12_41 (by first | exact Or.inl ⟨_, rfl⟩ | exact Or.inr ⟨_, rfl⟩) (by omega) zM_0 rfl ?_
  refine q_nmN (fun s85 => ?_)
  refine n_aload_n (i := 0) (x := 0) dX12_init_558 rfl 0 rfl ?_
  refine n_bipush (v := 6) dX12_init_559 (by decide) ?_
  refine n_newa (ty := .int) (t0 := 0) (N := 6) dX12_init_561 rfl ac_int (fun _ => rfl) (fun _ h => by cases h) zM_25 (by decide) (by decide) (fun _ _ => cB_int) ⟨by omega, by omega⟩ ?_
  refine n_cast (n2 := 26) (cl2 := 25) (sl2 := 126043) rfl rfl rfl ?_
  refine n_putr (t := 25) dX12_init_563 fpX12_104 rfl fnX12_X12_42 (by first | exact Or.inl ⟨_, rfl⟩ | exact Or.inr ⟨_, rfl⟩) (by omega) zM_0 rfl ?_
  refine q_nmN (fun s86 => ?_)
  refine n_aload_n (i := 0) (x := 0) dX12_init_566 rfl 0 rfl ?_
  refine n_bipush (v := 6) dX12_init_567 (by decide) ?_
  refine n_newa (ty := .int) (t0 := 0) (N := 6) dX12_init_569 rfl ac_int (fun _ => rfl) (fun _ h => by cases h) zM_26 (by decide) (by decide) (fun _ _ => cB_int) ⟨by omega, by omega⟩ ?_
  refine n_cast (n2 := 27) (cl2 := 26) (sl2 := 126049) rfl rfl rfl ?_
  refine n_putr (t := 26) dX12_init_571 fpX12_107 rfl fnX12_X12_43 (by first | exact Or.inl ⟨_, rfl⟩ | exact Or.inr ⟨_, rfl⟩) (by omega) zM_0 rfl ?_
  refine q_nmN (fun s87 => ?_)
  refine n_aload_n (i := 0) (x := 0) dX12_init_574 rfl 0 rfl ?_
  refine n_getr (t := 2) dX12_init_575 foX12_20 (by omega) zM_0 rfl ?_
  refine n_iconst (v := 2) dX12_init_578 (by decide) ?_
  refine n_iconst (v := 5) dX12_init_579 (by decide) ?_
  refine n_iast dX12_init_580 (by omega) zM_2 (by decide) ?_
  refine q_nmN (fun s88 => ?_)
  refine n_aload_n (i := 0) (x := 0) dX12_init_581 rfl 0 rfl ?_
  refine n_getr (t := 2) dX12_init_582 foX12_20 (by omega) zM_0 rfl ?_
  refine n_bipush (v := 24) dX12_init_585 (by decide) ?_
  refine n_iconst (v := 5) dX12_init_587 (by decide) ?_
  refine n_iast dX12_init_588 (by omega) zM_2 (by decide) ?_
  refine q_nmN (fun s89 => ?_)
  refine n_aload_n (i := 0) (x := 0) dX12_init_589 rfl 0 rfl ?_
  refine n_getr (t := 2) dX12_init_590 foX12_20 (by omega) zM_0 rfl ?_
  refine n_bipush (v := 44) dX12_init_593 (by decide) ?_
  refine n_iconst (v := 1) dX12_init_595 (by decide) ?_
  refine n_iast dX12_init_596 (by omega) zM_2 (by decide) ?_
  refine q_nmN (fun s90 => ?_)
  refine n_aload_n (i := 0) (x := 0) dX12_init_597 rfl 0 rfl ?_
  refine n_getr (t := 2) dX12_init_598 foX12_20 (by omega) zM_0 rfl ?_
  refine n_bipush (v := 45) dX12_init_601 (by decide) ?_
  refine n_iconst (v := 1) dX12_init_603 (by decide) ?_
  refine n_iast dX12_init_604 (by omega) zM_2 (by decide) ?_
  refine q_nmN (fun s91 => ?_)
  refine n_aload_n (i := 0) (x := 0) dX12_init_605 rfl 0 rfl ?_
  refine n_getr (t := 2) dX12_init_606 foX12_20 (by omega) zM_0 rfl ?_
  refine n_bipush (v := 47) dX12_init_609 (by decide) ?_
  refine n_iconst (v := 5) dX12_init_611 (by decide) ?_
  refine n_iast dX12_init_612 (by omega) zM_2 (by decide) ?_
  refine q_nmN (fun s92 => ?_)
  refine n_aload_n (i := 0) (x := 0) dX12_init_613 rfl 0 rfl ?_
  refine n_getr (t := 2) dX12_init_614 foX12_20 (by omega) zM_0 rfl ?_
  refine n_bipush (v := 48) dX12_init_617 (by decide) ?_
  refine n_iconst (v := 4) dX12_init_619 (by decide) ?_
  refine n_iast dX12_init_620 (by omega) zM_2 (by decide) ?_
  refine q_nmN (fun s93 => ?_)
  refine n_aload_n (i := 0) (x := 0) dX12_init_621 rfl 0 rfl ?_
  refine n_getr (t := 2) dX12_init_622 foX12_20 (by omega) zM_0 rfl ?_
  refine n_bipush (v := 49) dX12_init_625 (by decide) ?_
  refine n_bipush (v := 6) dX12_init_627 (by decide) ?_
  refine n_iast dX12_init_629 (by omega) zM_2 (by decide) ?_
  refine q_nmN (fun s94 => ?_)
  refine n_iconst (v := 0) dX12_init_630 (by decide) ?_
  refine n_istore_n (i := 1) (L' := [(1, .int 0), (0, .ref 0)]) dX12_init_631 rfl (Nat.le_of_ble_eq_true rfl) rfl ?_
  refine n_iload_n (i := 1) (x := 0) dX12_init_632 rfl 0 rfl ?_
  refine n_bipush (v := 30) dX12_init_633 (by decide) ?_
  refine n_ge_f (x := 0) (y := 30) (tgt := 655) dX12_init_635 (by decide) (by decide) ?_
  refine n_aload_n (i := 0) (x := 0) dX12_init_638 rfl 1 rfl ?_
  refine n_getr (t := 2) dX12_init_639 foX12_20 (by omega) zM_0 rfl ?_
  refine n_bipush (v := 50) dX12_init_642 (by decide) ?_
  refine n_iload_n (i := 1) (x := 0) dX12_init_644 rfl 0 rfl ?_
  refine n_iadd (z := 50) dX12_init_645 (by decide) ?_
  refine n_bipush (v := 100) dX12_init_646 (by decide) ?_
  refine n_iast dX12_init_648 (by omega) zM_2 (by decide) ?_
  refine q_nmN (fun s95 => ?_)
  refine n_iinc (i := 1) (x := 0) (v := 1) (L' := [(1, .int 1), (0, .ref 0)]) dX12_init_649 0 rfl (by decide) (Nat.le_of_ble_eq_true rfl) rfl ?_
  refine n_goto (tgt := 632) dX12_init_652 (by decide) ?_
  refine n_iload_n (i := 1) (x := 1) dX12_init_632 rfl 0 rfl ?_
  refine n_bipush (v := 30) dX12_init_633 (by decide) ?_
  refine n_ge_f (x := 1) (y := 30) (tgt := 655) dX12_init_635 (by decide) (by decide) ?_
  refine n_aload_n (i := 0) (x := 0) dX12_init_638 rfl 1 rfl ?_
  refine n_getr (t := 2) dX12_init_639 foX12_20 (by omega) zM_0 rfl ?_
  refine n_bipush (v := 50) dX12_init_642 (by decide) ?_
  refine n_iload_n (i := 1) (x := 1) dX12_init_644 rfl 0 rfl ?_
  refine n_iadd (z := 51) dX12_init_645 (by decide) ?_
  refine n_bipush (v := 100) dX12_init_646 (by decide) ?_
  refine n_iast dX12_init_648 (by omega) zM_2 (by decide) ?_
  refine q_nmN (fun s96 => ?_)
  refine n_iinc (i := 1) (x := 1) (v := 2) (L' := [(1, .int 2), (0, .ref 0)]) dX12_init_649 0 rfl (by decide) (Nat.le_of_ble_eq_true rfl) rfl ?_
  refine n_goto (tgt := 632) dX12_init_652 (by decide) ?_
  refine n_iload_n (i := 1) (x := 2) dX12_init_632 rfl 0 rfl ?_
  refine n_bipush (v := 30) dX12_init_633 (by decide) ?_
  refine n_ge_f (x := 2) (y := 30) (tgt := 655) dX12_init_635 (by decide) (by decide) ?_
  refine n_aload_n (i := 0) (x := 0) dX12_init_638 rfl 1 rfl ?_
  refine n_getr (t := 2) dX12_init_639 foX12_20 (by omega) zM_0 rfl ?_
  refine n_bipush (v := 50) dX12_init_642 (by decide) ?_
  refine n_iload_n (i := 1) (x := 2) dX12_init_644 rfl 0 rfl ?_
  refine n_iadd (z := 52) dX12_init_645 (by decide) ?_
  refine n_bipush (v := 100) dX12_init_646 (by decide) ?_
  refine n_iast dX12_init_648 (by omega) zM_2 (by decide) ?_
  refine q_nmN (fun s97 => ?_)
  refine n_iinc (i := 1) (x := 2) (v := 3) (L' := [(1, .int 3), (0, .ref 0)]) dX12_init_649 0 rfl (by decide) (Nat.le_of_ble_eq_true rfl) rfl ?_
  refine n_goto (tgt := 632) dX12_init_652 (by decide) ?_
  refine n_iload_n (i := 1) (x := 3) dX12_init_632 rfl 0 rfl ?_
  refine n_bipush (v := 30) dX12_init_633 (by decide) ?_
  refine n_ge_f (x := 3) (y := 30) (tgt := 655) dX12_init_635 (by decide) (by decide) ?_
  refine n_aload_n (i := 0) (x := 0) dX12_init_638 rfl 1 rfl ?_
  refine n_getr (t := 2) dX12_init_639 foX12_20 (by omega) zM_0 rfl ?_
  refine n_bipush (v := 50) dX12_init_642 (by decide) ?_
  refine n_iload_n (i := 1) (x := 3) dX12_init_644 rfl 0 rfl ?_
  refine n_iadd (z := 53) dX12_init_645 (by decide) ?_
  refine n_bipush (v := 100) dX12_init_646 (by decide) ?_
  refine n_iast dX12_init_648 (by omega) zM_2 (by decide) ?_
  refine q_nmN (fun s98 => ?_)
  refine n_iinc (i := 1) (x := 3) (v := 4) (L' := [(1, .int 4), (0, .ref 0)]) dX12_init_649 0 rfl (by decide) (Nat.le_of_ble_eq_true rfl) rfl ?_
  refine n_goto (tgt := 632) dX12_init_652 (by decide) ?_
  refine n_iload_n (i := 1) (x := 4) dX12_init_632 rfl 0 rfl ?_
  refine n_bipush (v := 30) dX12_init_633 (by decide) ?_
  refine n_ge_f (x := 4) (y := 30) (tgt := 655) dX12_init_635 (by decide) (by decide) ?_
  refine n_aload_n (i := 0) (x := 0) dX12_init_638 rfl 1 rfl ?_
  refine n_getr (t := 2) dX12_init_639 foX12_20 (by omega) zM_0 rfl ?_
  refine n_bipush (v := 50) dX12_init_642 (by decide) ?_
  refine n_iload_n (i := 1) (x := 4) dX12_init_644 rfl 0 rfl ?_
  refine n_iadd (z := 54) dX12_init_645 (by decide) ?_
  refine n_bipush (v := 100) dX12_init_646 (by decide) ?_
  refine n_iast dX12_init_648 (by omega) zM_2 (by decide) ?_
  refine q_nmN (fun s99 => ?_)
  refine n_iinc (i := 1) (x := 4) (v := 5) (L' := [(1, .int 5), (0, .ref 0)]) dX12_init_649 0 rfl (by decide) (Nat.le_of_ble_eq_true rfl) rfl ?_
  refine n_goto (tgt := 632) dX12_init_652 (by decide) ?_
  refine n_iload_n (i := 1) (x := 5) dX12_init_632 rfl 0 rfl ?_
  refine n_bipush (v := 30) dX12_init_633 (by decide) ?_
  refine n_ge_f (x := 5) (y := 30) (tgt := 655) dX12_init_635 (by decide) (by decide) ?_
  refine n_aload_n (i := 0) (x := 0) dX12_init_638 rfl 1 rfl ?_
  refine n_getr (t := 2) dX12_init_639 foX12_20 (by omega) zM_0 rfl ?_
  refine n_bipush (v := 50) dX12_init_642 (by decide) ?_
  refine n_iload_n (i := 1) (x := 5) dX12_init_644 rfl 0 rfl ?_
  refine n_iadd (z := 55) dX12_init_645 (by decide) ?_
  refine n_bipush (v := 100) dX12_init_646 (by decide) ?_
  refine n_iast dX12_init_648 (by omega) zM_2 (by decide) ?_
  refine q_nmN (fun s100 => ?_)
  refine n_iinc (i := 1) (x := 5) (v := 6) (L' := [(1, .int 6), (0, .ref 0)]) dX12_init_649 0 rfl (by decide) (Nat.le_of_ble_eq_true rfl) rfl ?_
  refine n_goto (tgt := 632) dX12_init_652 (by decide) ?_
  refine n_iload_n (i := 1) (x := 6) dX12_init_632 rfl 0 rfl ?_
  refine n_bipush (v := 30) dX12_init_633 (by decide) ?_
  refine n_ge_f (x := 6) (y := 30) (tgt := 655) dX12_init_635 (by decide) (by decide) ?_
  refine n_aload_n (i := 0) (x := 0) dX12_init_638 rfl 1 rfl ?_
  refine n_getr (t := 2) dX12_init_639 foX12_20 (by omega) zM_0 rfl ?_
  refine n_bipush (v := 50) dX12_init_642 (by decide) ?_
  refine n_iload_n (i := 1) (x := 6) dX12_init_644 rfl 0 rfl ?_
  refine n_iadd (z := 56) dX12_init_645 (by decide) ?_
  refine n_bipush (v := 100) dX12_init_646 (by decide) ?_
  refine n_iast dX12_init_648 (by omega) zM_2 (by decide) ?_
  refine q_nmN (fun s101 => ?_)
  refine n_iinc (i := 1) (x := 6) (v := 7) (L' := [(1, .int 7), (0, .ref 0)]) dX12_init_649 0 rfl (by decide) (Nat.le_of_ble_eq_true rfl) rfl ?_
  refine n_goto (tgt := 632) dX12_init_652 (by decide) ?_
  refine n_iload_n (i := 1) (x := 7) dX12_init_632 rfl 0 rfl ?_
  refine n_bipush (v := 30) dX12_init_633 (by decide) ?_
  refine n_ge_f (x := 7) (y := 30) (tgt := 655) dX12_init_635 (by decide) (by decide) ?_
  refine n_aload_n (i := 0) (x := 0) dX12_init_638 rfl 1 rfl ?_
  refine n_getr (t := 2) dX12_init_639 foX12_20 (by omega) zM_0 rfl ?_
  refine n_bipush (v := 50) dX12_init_642 (by decide) ?_
  refine n_iload_n (i := 1) (x := 7) dX12_init_644 rfl 0 rfl ?_
  refine n_iadd (z := 57) dX12_init_645 (by decide) ?_
  refine n_bipush (v := 100) dX12_init_646 (by decide) ?_
  refine n_iast dX12_init_648 (by omega) zM_2 (by decide) ?_
  refine q_nmN (fun s102 => ?_)
  refine n_iinc (i := 1) (x := 7) (v := 8) (L' := [(1, .int 8), (0, .ref 0)]) dX12_init_649 0 rfl (by decide) (Nat.le_of_ble_eq_true rfl) rfl ?_
  refine n_goto (tgt := 632) dX12_init_652 (by decide) ?_
  refine n_iload_n (i := 1) (x := 8) dX12_init_632 rfl 0 rfl ?_
  refine n_bipush (v := 30) dX12_init_633 (by decide) ?_
  refine n_ge_f (x := 8) (y := 30) (tgt := 655) dX12_init_635 (by decide) (by decide) ?_
  refine n_aload_n (i := 0) (x := 0) dX12_init_638 rfl 1 rfl ?_
  refine n_getr (t := 2) dX12_init_639 foX12_20 (by omega) zM_0 rfl ?_
  refine n_bipush (v := 50) dX12_init_642 (by decide) ?_
  refine n_iload_n (i := 1) (x := 8) dX12_init_644 rfl 0 rfl ?_
  refine n_iadd (z := 58) dX12_init_645 (by decide) ?_
  refine n_bipush (v := 100) dX12_init_646 (by decide) ?_
  refine n_iast dX12_init_648 (by omega) zM_2 (by decide) ?_
  refine q_nmN (fun s103 => ?_)
  refine n_iinc (i := 1) (x := 8) (v := 9) (L' := [(1, .int 9), (0, .ref 0)]) dX12_init_649 0 rfl (by decide) (Nat.le_of_ble_eq_true rfl) rfl ?_
  refine n_goto (tgt := 632) dX12_init_652 (by decide) ?_
  refine n_iload_n (i := 1) (x := 9) dX12_init_632 rfl 0 rfl ?_
  refine n_bipush (v := 30) dX12_init_633 (by decide) ?_
  refine n_ge_f (x := 9) (y := 30) (tgt := 655) dX12_init_635 (by decide) (by decide) ?_
  refine n_aload_n (i := 0) (x := 0) dX12_init_638 rfl 1 rfl ?_
  refine n_getr (t := 2) dX12_init_639 foX12_20 (by omega) zM_0 rfl ?_
  refine n_bipush (v := 50) dX12_init_642 (by decide) ?_
  refine n_iload_n (i := 1) (x := 9) dX12_init_644 rfl 0 rfl ?_
  refine n_iadd (z := 59) dX12_init_645 (by decide) ?_
  refine n_bipush (v := 100) dX12_init_646 (by decide) ?_
  refine n_iast dX12_init_648 (by omega) zM_2 (by decide) ?_
  refine q_nmN (fun s104 => ?_)
  refine n_iinc (i := 1) (x := 9) (v := 10) (L' := [(1, .int 10), (0, .ref 0)]) dX12_init_649 0 rfl (by decide) (Nat.le_of_ble_eq_true rfl) rfl ?_
  refine n_goto (tgt := 632) dX12_init_652 (by decide) ?_
  refine n_iload_n (i := 1) (x := 10) dX12_init_632 rfl 0 rfl ?_
  refine n_bipush (v := 30) dX12_init_633 (by decide) ?_
  refine n_ge_f (x := 10) (y := 30) (tgt := 655) dX12_init_635 (by decide) (by decide) ?_
  refine n_aload_n (i := 0) (x := 0) dX12_init_638 rfl 1 rfl ?_
  refine n_getr (t := 2) dX12_init_639 foX12_20 (by omega) zM_0 rfl ?_
  refine n_bipush (v := 50) dX12_init_642 (by decide) ?_
  refine n_iload_n (i := 1) (x := 10) dX12_init_644 rfl 0 rfl ?_
  refine n_iadd (z := 60) dX12_init_645 (by decide) ?_
  refine n_bipush (v := 100) dX12_init_646 (by decide) ?_
  refine n_iast dX12_init_648 (by omega) zM_2 (by decide) ?_
  refine q_nmN (fun s105 => ?_)
  refine n_iinc (i := 1) (x := 10) (v := 11) (L' := [(1, .int 11), (0, .ref 0)]) dX12_init_649 0 rfl (by decide) (Nat.le_of_ble_eq_true rfl) rfl ?_
  refine n_goto (tgt := 632) dX12_init_652 (by decide) ?_
  refine n_iload_n (i := 1) (x := 11) dX12_init_632 rfl 0 rfl ?_
  refine n_bipush (v := 30) dX12_init_633 (by decide) ?_
  refine n_ge_f (x := 11) (y := 30) (tgt := 655) dX12_init_635 (by decide) (by decide) ?_
  refine n_aload_n (i := 0) (x := 0) dX12_init_638 rfl 1 rfl ?_
  refine n_getr (t := 2) dX12_init_639 foX12_20 (by omega) zM_0 rfl ?_
  refine n_bipush (v := 50) dX12_init_642 (by decide) ?_
  refine n_iload_n (i := 1) (x := 11) dX12_init_644 rfl 0 rfl ?_
  refine n_iadd (z := 61) dX12_init_645 (by decide) ?_
  refine n_bipush (v := 100) dX12_init_646 (by decide) ?_
  refine n_iast dX12_init_648 (by omega) zM_2 (by decide) ?_
  refine q_nmN (fun s106 => ?_)
  refine n_iinc (i := 1) (x := 11) (v := 12) (L' := [(1, .int 12), (0, .ref 0)]) dX12_init_649 0 rfl (by decide) (Nat.le_of_ble_eq_true rfl) rfl ?_
  refine n_goto (tgt := 632) dX12_init_652 (by decide) ?_
  refine n_iload_n (i := 1) (x := 12) dX12_init_632 rfl 0 rfl ?_
  refine n_bipush (v := 30) dX12_init_633 (by decide) ?_
  refine n_ge_f (x := 12) (y := 30) (tgt := 655) dX12_init_635 (by decide) (by decide) ?_
  refine n_aload_n (i := 0) (x := 0) dX12_init_638 rfl 1 rfl ?_
  refine n_getr (t := 2) dX12_init_639 foX12_20 (by omega) zM_0 rfl ?_
  refine n_bipush (v := 50) dX12_init_642 (by decide) ?_
  refine n_iload_n (i := 1) (x := 12) dX12_init_644 rfl 0 rfl ?_
  refine n_iadd (z := 62) dX12_init_645 (by decide) ?_
  refine n_bipush (v := 100) dX12_init_646 (by decide) ?_
  refine n_iast dX12_init_648 (by omega) zM_2 (by decide) ?_
  refine q_nmN (fun s107 => ?_)
  refine n_iinc (i := 1) (x := 12) (v := 13) (L' := [(1, .int 13), (0, .ref 0)]) dX12_init_649 0 rfl (by decide) (Nat.le_of_ble_eq_true rfl) rfl ?_
  refine n_goto (tgt := 632) dX12_init_652 (by decide) ?_
  refine n_iload_n (i := 1) (x := 13) dX12_init_632 rfl 0 rfl ?_
  refine n_bipush (v := 30) dX12_init_633 (by decide) ?_
  refine n_ge_f (x := 13) (y := 30) (tgt := 655) dX12_init_635 (by decide) (by decide) ?_
  refine n_aload_n (i := 0) (x := 0) dX12_init_638 rfl 1 rfl ?_
  refine n_getr (t := 2) dX12_init_639 foX12_20 (by omega) zM_0 rfl ?_
  refine n_bipush (v := 50) dX12_init_642 (by decide) ?_
  refine n_iload_n (i := 1) (x := 13) dX12_init_644 rfl 0 rfl ?_
  refine n_iadd (z := 63) dX12_init_645 (by decide) ?_
  refine n_bipush (v := 100) dX12_init_646 (by decide) ?_
  refine n_iast dX12_init_648 (by omega) zM_2 (by decide) ?_
  refine q_nmN (fun s108 => ?_)
  refine n_iinc (i := 1) (x := 13) (v := 14) (L' := [(1, .int 14), (0, .ref 0)]) dX12_init_649 0 rfl (by decide) (Nat.le_of_ble_eq_true rfl) rfl ?_
  refine n_goto (tgt := 632) dX12_init_652 (by decide) ?_
  refine n_iload_n (i := 1) (x := 14) dX12_init_632 rfl 0 rfl ?_
  refine n_bipush (v := 30) dX12_init_633 (by decide) ?_
  refine n_ge_f (x := 14) (y := 30) (tgt := 655) dX12_init_635 (by decide) (by decide) ?_
  refine n_aload_n (i := 0) (x := 0) dX12_init_638 rfl 1 rfl ?_
  refine n_getr (t := 2) dX12_init_639 foX12_20 (by omega) zM_0 rfl ?_
  refine n_bipush (v := 50) dX12_init_642 (by decide) ?_
  refine n_iload_n (i := 1) (x := 14) dX12_init_644 rfl 0 rfl ?_
  refine n_iadd (z := 64) dX12_init_645 (by decide) ?_
  refine n_bipush (v := 100) dX12_init_646 (by decide) ?_
  refine n_iast dX12_init_648 (by omega) zM_2 (by decide) ?_
  refine q_nmN (fun s109 => ?_)
  refine n_iinc (i := 1) (x := 14) (v := 15) (L' := [(1, .int 15), (0, .ref 0)]) dX12_init_649 0 rfl (by decide) (Nat.le_of_ble_eq_true rfl) rfl ?_
  refine n_goto (tgt := 632) dX12_init_652 (by decide) ?_
  refine n_iload_n (i := 1) (x := 15) dX12_init_632 rfl 0 rfl ?_
  refine n_bipush (v := 30) dX12_init_633 (by decide) ?_
  refine n_ge_f (x := 15) (y := 30) (tgt := 655) dX12_init_635 (by decide) (by decide) ?_
  refine n_aload_n (i := 0) (x := 0) dX12_init_638 rfl 1 rfl ?_
  refine n_getr (t := 2) dX12_init_639 foX12_20 (by omega) zM_0 rfl ?_
  refine n_bipush (v := 50) dX12_init_642 (by decide) ?_
  refine n_iload_n (i := 1) (x := 15) dX12_init_644 rfl 0 rfl ?_
  refine n_iadd (z := 65) dX12_init_645 (by decide) ?_
  refine n_bipush (v := 100) dX12_init_646 (by decide) ?_
  refine n_iast dX12_init_648 (by omega) zM_2 (by decide) ?_
  refine q_nmN (fun s110 => ?_)
  refine n_iinc (i := 1) (x := 15) (v := 16) (L' := [(1, .int 16), (0, .ref 0)]) dX12_init_649 0 rfl (by decide) (Nat.le_of_ble_eq_true rfl) rfl ?_
  refine n_goto (tgt := 632) dX12_init_652 (by decide) ?_
  refine n_iload_n (i := 1) (x := 16) dX12_init_632 rfl 0 rfl ?_
  refine n_bipush (v := 30) dX12_init_633 (by decide) ?_
  refine n_ge_f (x := 16) (y := 30) (tgt := 655) dX12_init_635 (by decide) (by decide) ?_
  refine n_aload_n (i := 0) (x := 0) dX12_init_638 rfl 1 rfl ?_
  refine n_getr (t := 2) dX12_init_639 foX12_20 (by omega) zM_0 rfl ?_
  refine n_bipush (v := 50) dX12_init_642 (by decide) ?_
  refine n_iload_n (i := 1) (x := 16) dX12_init_644 rfl 0 rfl ?_
  refine n_iadd (z := 66) dX12_init_645 (by decide) ?_
  refine n_bipush (v := 100) dX12_init_646 (by decide) ?_
  refine n_iast dX12_init_648 (by omega) zM_2 (by decide) ?_
  refine q_nmN (fun s111 => ?_)
  refine n_iinc (i := 1) (x := 16) (v := 17) (L' := [(1, .int 17), (0, .ref 0)]) dX12_init_649 0 rfl (by decide) (Nat.le_of_ble_eq_true rfl) rfl ?_
  refine n_goto (tgt := 632) dX12_init_652 (by decide) ?_
  refine n_iload_n (i := 1) (x := 17) dX12_init_632 rfl 0 rfl ?_
  refine n_bipush (v := 30) dX12_init_633 (by decide) ?_
  refine n_ge_f (x := 17) (y := 30) (tgt := 655) dX12_init_635 (by decide) (by decide) ?_
  refine n_aload_n (i := 0) (x := 0) dX12_init_638 rfl 1 rfl ?_
  refine n_getr (t := 2) dX12_init_639 foX12_20 (by omega) zM_0 rfl ?_
  refine n_bipush (v := 50) dX12_init_642 (by decide) ?_
  refine n_iload_n (i := 1) (x := 17) dX12_init_644 rfl 0 rfl ?_
  refine n_iadd (z := 67) dX12_init_645 (by decide) ?_
  refine n_bipush (v := 100) dX12_init_646 (by decide) ?_
  refine n_iast dX12_init_648 (by omega) zM_2 (by decide) ?_
  refine q_nmN (fun s112 => ?_)
  refine n_iinc (i := 1) (x := 17) (v := 18) (L' := [(1, .int 18), (0, .ref 0)]) dX12_init_649 0 rfl (by decide) (Nat.le_of_ble_eq_true rfl) rfl ?_
  refine n_goto (tgt := 632) dX12_init_652 (by decide) ?_
  refine n_iload_n (i := 1) (x := 18) dX12_init_632 rfl 0 rfl ?_
  refine n_bipush (v := 30) dX12_init_633 (by decide) ?_
  refine n_ge_f (x := 18) (y := 30) (tgt := 655) dX12_init_635 (by decide) (by decide) ?_
  refine n_aload_n (i := 0) (x := 0) dX12_init_638 rfl 1 rfl ?_
  refine n_getr (t := 2) dX12_init_639 foX12_20 (by omega) zM_0 rfl ?_
  refine n_bipush (v := 50) dX12_init_642 (by decide) ?_
  refine n_iload_n (i := 1) (x := 18) dX12_init_644 rfl 0 rfl ?_
  refine n_iadd (z := 68) dX12_init_645 (by decide) ?_
  refine n_bipush (v := 100) dX12_init_646 (by decide) ?_
  refine n_iast dX12_init_648 (by omega) zM_2 (by decide) ?_
  refine q_nmN (fun s113 => ?_)
  refine n_iinc (i := 1) (x := 18) (v := 19) (L' := [(1, .int 19), (0, .ref 0)]) dX12_init_649 0 rfl (by decide) (Nat.le_of_ble_eq_true rfl) rfl ?_
  refine n_goto (tgt := 632) dX12_init_652 (by decide) ?_
  refine n_iload_n (i := 1) (x := 19) dX12_init_632 rfl 0 rfl ?_
  refine n_bipush (v := 30) dX12_init_633 (by decide) ?_
  refine n_ge_f (x := 19) (y := 30) (tgt := 655) dX12_init_635 (by decide) (by decide) ?_
  refine n_aload_n (i := 0) (x := 0) dX12_init_638 rfl 1 rfl ?_
  refine n_getr (t := 2) dX12_init_639 foX12_20 (by omega) zM_0 rfl ?_
  refine n_bipush (v := 50) dX12_init_642 (by decide) ?_
  refine n_iload_n (i := 1) (x := 19) dX12_init_644 rfl 0 rfl ?_
  refine n_iadd (z := 69) dX12_init_645 (by decide) ?_
  refine n_bipush (v := 100) dX12_init_646 (by decide) ?_
  refine n_iast dX12_init_648 (by omega) zM_2 (by decide) ?_
  refine q_nmN (fun s114 => ?_)
  refine n_iinc (i := 1) (x := 19) (v := 20) (L' := [(1, .int 20), (0, .ref 0)]) dX12_init_649 0 rfl (by decide) (Nat.le_of_ble_eq_true rfl) rfl ?_
  refine n_goto (tgt := 632) dX12_init_652 (by decide) ?_
  refine n_iload_n (i := 1) (x := 20) dX12_init_632 rfl 0 rfl ?_
  refine n_bipush (v := 30) dX12_init_633 (by decide) ?_
  refine n_ge_f (x := 20) (y := 30) (tgt := 655) dX12_init_635 (by decide) (by decide) ?_
  refine n_aload_n (i := 0) (x := 0) dX12_init_638 rfl 1 rfl ?_
  refine n_getr (t := 2) dX12_init_639 foX12_20 (by omega) zM_0 rfl ?_
  refine n_bipush (v := 50) dX12_init_642 (by decide) ?_
  refine n_iload_n (i := 1) (x := 20) dX12_init_644 rfl 0 rfl ?_
  refine n_iadd (z := 70) dX12_init_645 (by decide) ?_
  refine n_bipush (v := 100) dX12_init_646 (by decide) ?_
  refine n_iast dX12_init_648 (by omega) zM_2 (by decide) ?_
  refine q_nmN (fun s115 => ?_)
  refine n_iinc (i := 1) (x := 20) (v := 21) (L' := [(1, .int 21), (0, .ref 0)]) dX12_init_649 0 rfl (by decide) (Nat.le_of_ble_eq_true rfl) rfl ?_
  refine n_goto (tgt := 632) dX12_init_652 (by decide) ?_
  refine n_iload_n (i := 1) (x := 21) dX12_init_632 rfl 0 rfl ?_
  refine n_bipush (v := 30) dX12_init_633 (by decide) ?_
  refine n_ge_f (x := 21) (y := 30) (tgt := 655) dX12_init_635 (by decide) (by decide) ?_
  refine n_aload_n (i := 0) (x := 0) dX12_init_638 rfl 1 rfl ?_
  refine n_getr (t := 2) dX12_init_639 foX12_20 (by omega) zM_0 rfl ?_
  refine n_bipush (v := 50) dX12_init_642 (by decide) ?_
  refine n_iload_n (i := 1) (x := 21) dX12_init_644 rfl 0 rfl ?_
  refine n_iadd (z := 71) dX12_init_645 (by decide) ?_
  refine n_bipush (v := 100) dX12_init_646 (by decide) ?_
  refine n_iast dX12_init_648 (by omega) zM_2 (by decide) ?_
  refine q_nmN (fun s116 => ?_)
  refine n_iinc (i := 1) (x := 21) (v := 22) (L' := [(1, .int 22), (0, .ref 0)]) dX12_init_649 0 rfl (by decide) (Nat.le_of_ble_eq_true rfl) rfl ?_
  refine n_goto (tgt := 632) dX12_init_652 (by decide) ?_
  refine n_iload_n (i := 1) (x := 22) dX12_init_632 rfl 0 rfl ?_
  refine n_bipush (v := 30) dX12_init_633 (by decide) ?_
  refine n_ge_f (x := 22) (y := 30) (tgt := 655) dX12_init_635 (by decide) (by decide) ?_
  refine n_aload_n (i := 0) (x := 0) dX12_init_638 rfl 1 rfl ?_
  refine n_getr (t := 2) dX12_init_639 foX12_20 (by omega) zM_0 rfl ?_
  refine n_bipush (v := 50) dX12_init_642 (by decide) ?_
  refine n_iload_n (i := 1) (x := 22) dX12_init_644 rfl 0 rfl ?_
  refine n_iadd (z := 72) dX12_init_645 (by decide) ?_
  refine n_bipush (v := 100) dX12_init_646 (by decide) ?_
  refine n_iast dX12_init_648 (by omega) zM_2 (by decide) ?_
  refine q_nmN (fun s117 => ?_)
  refine n_iinc (i := 1) (x := 22) (v := 23) (L' := [(1, .int 23), (0, .ref 0)]) dX12_init_649 0 rfl (by decide) (Nat.le_of_ble_eq_true rfl) rfl ?_
  refine n_goto (tgt := 632) dX12_init_652 (by decide) ?_
  refine n_iload_n (i := 1) (x := 23) dX12_init_632 rfl 0 rfl ?_
  refine n_bipush (v := 30) dX12_init_633 (by decide) ?_
  refine n_ge_f (x := 23) (y := 30) (tgt := 655) dX12_init_635 (by decide) (by decide) ?_
  refine n_aload_n (i := 0) (x := 0) dX12_init_638 rfl 1 rfl ?_
  refine n_getr (t := 2) dX12_init_639 foX12_20 (by omega) zM_0 rfl ?_
  refine n_bipush (v := 50) dX12_init_642 (by decide) ?_
  refine n_iload_n (i := 1) (x := 23) dX12_init_644 rfl 0 rfl ?_
  refine n_iadd (z := 73) dX12_init_645 (by decide) ?_
  refine n_bipush (v := 100) dX12_init_646 (by decide) ?_
  refine n_iast dX12_init_648 (by omega) zM_2 (by decide) ?_
  refine q_nmN (fun s118 => ?_)
  refine n_iinc (i := 1) (x := 23) (v := 24) (L' := [(1, .int 24), (0, .ref 0)]) dX12_init_649 0 rfl (by decide) (Nat.le_of_ble_eq_true rfl) rfl ?_
  refine n_goto (tgt := 632) dX12_init_652 (by decide) ?_
  refine n_iload_n (i := 1) (x := 24) dX12_init_632 rfl 0 rfl ?_
  refine n_bipush (v := 30) dX12_init_633 (by decide) ?_
  refine n_ge_f (x := 24) (y := 30) (tgt := 655) dX12_init_635 (by decide) (by decide) ?_
  refine n_aload_n (i := 0) (x := 0) dX12_init_638 rfl 1 rfl ?_
  refine n_getr (t := 2) dX12_init_639 foX12_20 (by omega) zM_0 rfl ?_
  refine n_bipush (v := 50) dX12_init_642 (by decide) ?_
  refine n_iload_n (i := 1) (x := 24) dX12_init_644 rfl 0 rfl ?_
  refine n_iadd (z := 74) dX12_init_645 (by decide) ?_
  refine n_bipush (v := 100) dX12_init_646 (by decide) ?_
  refine n_iast dX12_init_648 (by omega) zM_2 (by decide) ?_
  refine q_nmN (fun s119 => ?_)
  refine n_iinc (i := 1) (x := 24) (v := 25) (L' := [(1, .int 25), (0, .ref 0)]) dX12_init_649 0 rfl (by decide) (Nat.le_of_ble_eq_true rfl) rfl ?_
  refine n_goto (tgt := 632) dX12_init_652 (by decide) ?_
  refine n_iload_n (i := 1) (x := 25) dX12_init_632 rfl 0 rfl ?_
  refine n_bipush (v := 30) dX12_init_633 (by decide) ?_
  refine n_ge_f (x := 25) (y := 30) (tgt := 655) dX12_init_635 (by decide) (by decide) ?_
  refine n_aload_n (i := 0) (x := 0) dX12_init_638 rfl 1 rfl ?_
  refine n_getr (t := 2) dX12_init_639 foX12_20 (by omega) zM_0 rfl ?_
  refine n_bipush (v := 50) dX12_init_642 (by decide) ?_
  refine n_iload_n (i := 1) (x := 25) dX12_init_644 rfl 0 rfl ?_
  refine n_iadd (z := 75) dX12_init_645 (by decide) ?_
  refine n_bipush (v := 100) dX12_init_646 (by decide) ?_
  refine n_iast dX12_init_648 (by omega) zM_2 (by decide) ?_
  refine q_nmN (fun s120 => ?_)
  refine n_iinc (i := 1) (x := 25) (v := 26) (L' := [(1, .int 26), (0, .ref 0)]) dX12_init_649 0 rfl (by decide) (Nat.le_of_ble_eq_true rfl) rfl ?_
  refine n_goto (tgt := 632) dX12_init_652 (by decide) ?_
  refine n_iload_n (i := 1) (x := 26) dX12_init_632 rfl 0 rfl ?_
  refine n_bipush (v := 30) dX12_init_633 (by decide) ?_
  refine n_ge_f (x := 26) (y := 30) (tgt := 655) dX12_init_635 (by decide) (by decide) ?_
  refine n_aload_n (i := 0) (x := 0) dX12_init_638 rfl 1 rfl ?_
  refine n_getr (t := 2) dX12_init_639 foX12_20 (by omega) zM_0 rfl ?_
  refine n_bipush (v := 50) dX12_init_642 (by decide) ?_
  refine n_iload_n (i := 1) (x := 26) dX12_init_644 rfl 0 rfl ?_
  refine n_iadd (z := 76) dX12_init_645 (by decide) ?_
  refine n_bipush (v := 100) dX12_init_646 (by decide) ?_
  refine n_iast dX12_init_648 (by omega) zM_2 (by decide) ?_
  refine q_nmN (fun s121 => ?_)
  refine n_iinc (i := 1) (x := 26) (v := 27) (L' := [(1, .int 27), (0, .ref 0)]) dX12_init_649 0 rfl (by decide) (Nat.le_of_ble_eq_true rfl) rfl ?_
  refine n_goto (tgt := 632) dX12_init_652 (by decide) ?_
  refine n_iload_n (i := 1) (x := 27) dX12_init_632 rfl 0 rfl ?_
  refine n_bipush (v := 30) dX12_init_633 (by decide) ?_
  refine n_ge_f (x := 27) (y := 30) (tgt := 655) dX12_init_635 (by decide) (by decide) ?_
  refine n_aload_n (i := 0) (x := 0) dX12_init_638 rfl 1 rfl ?_
  refine n_getr (t := 2) dX12_init_639 foX12_20 (by omega) zM_0 rfl ?_
  refine n_bipush (v := 50) dX12_init_642 (by decide) ?_
  refine n_iload_n (i := 1) (x := 27) dX12_init_644 rfl 0 rfl ?_
  refine n_iadd (z := 77) dX12_init_645 (by decide) ?_
  refine n_bipush (v := 100) dX12_init_646 (by decide) ?_
  refine n_iast dX12_init_648 (by omega) zM_2 (by decide) ?_
  refine q_nmN (fun s122 => ?_)
  refine n_iinc (i := 1) (x := 27) (v := 28) (L' := [(1, .int 28), (0, .ref 0)]) dX12_init_649 0 rfl (by decide) (Nat.le_of_ble_eq_true rfl) rfl ?_
  refine n_goto (tgt := 632) dX12_init_652 (by decide) ?_
  refine n_iload_n (i := 1) (x := 28) dX12_init_632 rfl 0 rfl ?_
  refine n_bipush (v := 30) dX12_init_633 (by decide) ?_
  refine n_ge_f (x := 28) (y := 30) (tgt := 655) dX12_init_635 (by decide) (by decide) ?_
  refine n_aload_n (i := 0) (x := 0) dX12_init_638 rfl 1 rfl ?_
  refine n_getr (t := 2) dX12_init_639 foX12_20 (by omega) zM_0 rfl ?_
  refine n_bipush (v := 50) dX12_init_642 (by decide) ?_
  refine n_iload_n (i := 1) (x := 28) dX12_init_644 rfl 0 rfl ?_
  refine n_iadd (z := 78) dX12_init_645 (by decide) ?_
  refine n_bipush (v := 100) dX12_init_646 (by decide) ?_
  refine n_iast dX12_init_648 (by omega) zM_2 (by decide) ?_
  refine q_nmN (fun s123 => ?_)
  refine n_iinc (i := 1) (x := 28) (v := 29) (L' := [(1, .int 29), (0, .ref 0)]) dX12_init_649 0 rfl (by decide) (Nat.le_of_ble_eq_true rfl) rfl ?_
  refine n_goto (tgt := 632) dX12_init_652 (by decide) ?_
  refine n_iload_n (i := 1) (x := 29) dX12_init_632 rfl 0 rfl ?_
  refine n_bipush (v := 30) dX12_init_633 (by decide) ?_
  refine n_ge_f (x := 29) (y := 30) (tgt := 655) dX12_init_635 (by decide) (by decide) ?_
  refine n_aload_n (i := 0) (x := 0) dX12_init_638 rfl 1 rfl ?_
  refine n_getr (t := 2) dX12_init_639 foX12_20 (by omega) zM_0 rfl ?_
  refine n_bipush (v := 50) dX12_init_642 (by decide) ?_
  refine n_iload_n (i := 1) (x := 29) dX12_init_644 rfl 0 rfl ?_
  refine n_iadd (z := 79) dX12_init_645 (by decide) ?_
  refine n_bipush (v := 100) dX12_init_646 (by decide) ?_
  refine n_iast dX12_init_648 (by omega) zM_2 (by decide) ?_
  refine q_nmN (fun s124 => ?_)
  refine n_iinc (i := 1) (x := 29) (v := 30) (L' := [(1, .int 30), (0, .ref 0)]) dX12_init_649 0 rfl (by decide) (Nat.le_of_ble_eq_true rfl) rfl ?_
  refine n_goto (tgt := 632) dX12_init_652 (by decide) ?_
  refine n_iload_n (i := 1) (x := 30) dX12_init_632 rfl 0 rfl ?_
  refine n_bipush (v := 30) dX12_init_633 (by decide) ?_
  refine n_ge_t (x := 30) (y := 30) (tgt := 655) dX12_init_635 (by decide) (by decide) ?_
  exact n_vret dX12_init_655 rfl
theorem knX12_init   (σ : qMem) : qMn wM mX12_init [.ref 0] 1 σ 27 26 126049 (fnX12_init  σ) := qMn_of moX12_init (Nat.le_of_ble_eq_true rfl) (anX12_init   σ)
