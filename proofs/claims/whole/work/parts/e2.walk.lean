/-! the law's cases: arguments, two calls, the comparison -/
def lcs (I : Nat) : List (Nat × Value) := [(3, .int (zI I)), (0, .ref 2), (1, .ref 0), (2, .ref 1)]
def ag (xs : Nat → Int32) (I : Nat) : Nat → List Int32
  | 0 => []
  | n + 1 => ag xs I n ++ [xs (I + 1 + n)]
theorem ag_len (xs : Nat → Int32) (I : Nat) : ∀ n, (ag xs I n).length = n
  | 0 => rfl
  | n + 1 => by rw [show ag xs I (n + 1) = ag xs I n ++ [xs (I + 1 + n)] from rfl, List.length_append, ag_len xs I n]; rfl
def argD (pc n : Nat) : Prop := ∀ t, t < n → decode code (pc + 5 * t) = .ok (.aload_n 0, 1) ∧ decode code (pc + 5 * t + 1) = .ok (.iload_n 3, 1) ∧ decode code (pc + 5 * t + 1 + 1) = .ok (.iconst ((t : Int) + 1), 1) ∧ decode code (pc + 5 * t + 1 + 1 + 1) = .ok (.iadd, 1) ∧ decode code (pc + 5 * t + 1 + 1 + 1 + 1) = .ok (.iaload, 1)
section QC
variable {L : Nat} {xs : Nat → Int32} {σC σM : qMem}
theorem l_args {I pc : Nat} (hI : I + 6 ≤ L) (hL : L ≤ 3072) {st : List Value} : ∀ n, n ≤ 5 → argD pc n → qL L xs (pc + 5 * n) (lcs I) (((ag xs I n).map Value.int).reverse ++ st) σC σM → qL L xs pc (lcs I) st σC σM := by
  intro n
  induction n with
  | zero => intro _ _ k; exact k
  | succ n ih =>
    intro hn hD k
    refine ih (by omega) (fun t ht => hD t (by omega)) ?_
    obtain ⟨d0, d1, d2, d3, d4⟩ := hD n (by omega)
    refine l_aload_n (i := 0) (x := 2) d0 rfl 1 rfl ?_
    refine l_iload_n (i := 3) (x := zI I) d1 rfl 0 rfl ?_
    refine l_iconst (v := zI ((n : Int) + 1)) d2 rfl ?_
    refine l_iadd d3 ?_
    have e : zI (I : Int) + zI ((n : Int) + 1) = zI ((I + 1 + n : Nat) : Int) := by rw [zI_add, show (I : Int) + ((n : Int) + 1) = ((I + 1 + n : Nat) : Int) by omega]
    have z : (zI ((I + 1 + n : Nat) : Int)).toNatClampNeg = I + 1 + n := by rw [zI_clamp (by omega) (by omega)]; omega
    have kin : ck (zI ((I + 1 + n : Nat) : Int)) L = true := of_eq_true (zI_ckT (by omega) (by omega) (by omega))
    rw [e]
    refine l_sld (i := zI ((I + 1 + n : Nat) : Int)) d4 (ck_in kin) ?_
    rw [z]
    rw [show ((ag xs I (n + 1)).map Value.int).reverse ++ st = Value.int (xs (I + 1 + n)) :: (((ag xs I n).map Value.int).reverse ++ st) by
      rw [show ag xs I (n + 1) = ag xs I n ++ [xs (I + 1 + n)] from rfl, List.map_append, List.reverse_append]; rfl] at k
    exact k
def caD (pc n idx1 idx2 : Nat) (off : Int) : Prop := decode code pc = .ok (.aload_n 1, 1) ∧ argD (pc + 1) n ∧ decode code (pc + 1 + 5 * n) = .ok (.invokevirtual idx1, 3) ∧ decode code (pc + 1 + 5 * n + 3) = .ok (.aload_n 2, 1) ∧ argD (pc + 1 + 5 * n + 3 + 1) n ∧ decode code (pc + 1 + 5 * n + 3 + 1 + 5 * n) = .ok (.invokevirtual idx2, 3) ∧ decode code (pc + 1 + 5 * n + 3 + 1 + 5 * n + 3) = .ok (.if_icmp .eq off, 3) ∧ ((pc + 1 + 5 * n + 3 + 1 + 5 * n + 3 : Nat) : Int) + off = ((1993 : Nat) : Int)
theorem l_case {I n pc idx1 idx2 : Nat} {off : Int} {β1 β2 : Type} {ρ1 : β1 → Option Value × qMem} {ρ2 : β2 → Option Value × qMem} (M1 M2 : qMt) {r1 : Option β1} {a1 : β1} {r2 : Option β2} {a2 : β2} {v : Int32} {σ' τ' : qMem} (hI : I + 6 ≤ L) (hL : L ≤ 3072) (hn : n ≤ 5) (hD : caD pc n idx1 idx2 off) (h1 : sV R_law idx1 M1 n) (h2 : sV R_law idx2 M2 n)
    (R1 : M1.2.2.2.2.1 + 1 ≤ 2048 ∧ 8 + (M1.2.2.1 + 11) + M1.2.2.2.2.2 ≤ 84000) (R2 : M2.2.2.2.2.1 + 1 ≤ 2048 ∧ 8 + (M2.2.2.1 + 11) + M2.2.2.2.2.2 ≤ 84000) (c1 : RX11 = M1.1.cls) (c2 : RX12 = M2.1.cls)
    (q1 : qMc wC M1 ρ1 (.ref 0 :: (ag xs I n).map Value.int) σC r1) (e1 : r1 = some a1) (v1 : ρ1 a1 = (some (.int v), σ')) (q2 : qMc wM M2 ρ2 (.ref 0 :: (ag xs I n).map Value.int) σM r2) (e2 : r2 = some a2) (v2 : ρ2 a2 = (some (.int v), τ')) (kk : qL L xs 1993 (lcs I) [] σ' τ') : qL L xs pc (lcs I) [] σC σM := by
  obtain ⟨d1, d2, d3, d4, d5, d6, d7, d8⟩ := hD
  refine l_aload_n (i := 1) (x := 0) d1 rfl 2 rfl ?_
  refine l_args hI hL n hn d2 ?_
  refine l_callC (st := []) M1 (ag xs I n) d3 h1 R1 c1 rfl (ag_len xs I n) (by decide) q1 e1 (fun ad ad' => by rw [v1]; rfl) ?_
  rw [v1]
  refine l_aload_n (i := 2) (x := 1) d4 rfl 3 rfl ?_
  refine l_args hI hL n hn d5 ?_
  refine l_callM (st := [.int v]) M2 (ag xs I n) d6 h2 R2 c2 rfl (ag_len xs I n) (show 1 ≤ 8 by decide) q2 e2 (fun ad ad' => by rw [v2]; rfl) ?_
  rw [v2]
  exact l_eq d7 d8 rfl kk
def caDl (pc n idx1 idx2 : Nat) (off : Int) : Prop := decode code pc = .ok (.aload_n 1, 1) ∧ argD (pc + 1) n ∧ decode code (pc + 1 + 5 * n) = .ok (.invokevirtual idx1, 3) ∧ decode code (pc + 1 + 5 * n + 3) = .ok (.aload_n 2, 1) ∧ argD (pc + 1 + 5 * n + 3 + 1) n ∧ decode code (pc + 1 + 5 * n + 3 + 1 + 5 * n) = .ok (.invokevirtual idx2, 3) ∧ decode code (pc + 1 + 5 * n + 3 + 1 + 5 * n + 3) = .ok (.lcmp, 1) ∧ decode code (pc + 1 + 5 * n + 3 + 1 + 5 * n + 3 + 1) = .ok (.ifCond .eq off, 3) ∧ ((pc + 1 + 5 * n + 3 + 1 + 5 * n + 3 + 1 : Nat) : Int) + off = ((1993 : Nat) : Int)
theorem l_caseL {I n pc idx1 idx2 : Nat} {off : Int} {β1 β2 : Type} {ρ1 : β1 → Option Value × qMem} {ρ2 : β2 → Option Value × qMem} (M1 M2 : qMt) {r1 : Option β1} {a1 : β1} {r2 : Option β2} {a2 : β2} {v : Int64} {σ' τ' : qMem} (hI : I + 6 ≤ L) (hL : L ≤ 3072) (hn : n ≤ 5) (hD : caDl pc n idx1 idx2 off) (h1 : sV R_law idx1 M1 n) (h2 : sV R_law idx2 M2 n)
    (R1 : M1.2.2.2.2.1 + 1 ≤ 2048 ∧ 8 + (M1.2.2.1 + 11) + M1.2.2.2.2.2 ≤ 84000) (R2 : M2.2.2.2.2.1 + 1 ≤ 2048 ∧ 8 + (M2.2.2.1 + 11) + M2.2.2.2.2.2 ≤ 84000) (c1 : RX11 = M1.1.cls) (c2 : RX12 = M2.1.cls)
    (q1 : qMc wC M1 ρ1 (.ref 0 :: (ag xs I n).map Value.int) σC r1) (e1 : r1 = some a1) (v1 : ρ1 a1 = (some (.long v), σ')) (q2 : qMc wM M2 ρ2 (.ref 0 :: (ag xs I n).map Value.int) σM r2) (e2 : r2 = some a2) (v2 : ρ2 a2 = (some (.long v), τ')) (kk : qL L xs 1993 (lcs I) [] σ' τ') : qL L xs pc (lcs I) [] σC σM := by
  obtain ⟨d1, d2, d3, d4, d5, d6, d7, d8, d9⟩ := hD
  refine l_aload_n (i := 1) (x := 0) d1 rfl 2 rfl ?_
  refine l_args hI hL n hn d2 ?_
  refine l_callC (st := []) M1 (ag xs I n) d3 h1 R1 c1 rfl (ag_len xs I n) (by decide) q1 e1 (fun ad ad' => by rw [v1]; rfl) ?_
  rw [v1]
  refine l_aload_n (i := 2) (x := 1) d4 rfl 3 rfl ?_
  refine l_args hI hL n hn d5 ?_
  refine l_callM (st := [.long v]) M2 (ag xs I n) d6 h2 R2 c2 rfl (ag_len xs I n) (show 2 ≤ 8 by decide) q2 e2 (fun ad ad' => by rw [v2]; rfl) ?_
  rw [v2]
  refine l_lcmp d7 ?_
  exact l_if0 d8 d9 (by unfold lg_cmp; simp) kk
end QC
