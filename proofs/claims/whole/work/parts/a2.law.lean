/-! the reference reads: clauses, a law -/
section RL
variable {T U : Nat → Int} {L : Nat}
theorem r_clause {N : Nat} (hN : 200000 ≤ N) (hT : okT T L) : okR T L (fX12_readClause N) (pClause (tcS T L) (tvS T L)) := by
  have hM := tkM_le T L
  have hL := hT.1
  have hS : okR T L (fX12_readSum N 10 0) (pSum (tcS T L) (tvS T L) (pIn (tcS T L) (tvS T L) 8)) := r_sum hN hT 8 10 0 (by omega) (by omega)
  have hQ : okR T L (fX12_readTest N 10 0) (pTest (tcS T L) (tvS T L) (pIn (tcS T L) (tvS T L) 8) (pInT (tcS T L) (tvS T L) 8)) := r_test hN hT 8 10 0 (by omega) (by omega)
  have b45 : ∀ t, gi t 0 36 ≠ -1 → fX12_readClause_b45 N t = some t := fun t ht => by
    unfold fX12_readClause_b45
    rw [hS.1 t ht, Option.bind_some, takes_bad _ ht, Option.bind_some, if_pos rfl]
  have b28 : ∀ t, gi t 0 36 ≠ -1 → fX12_readClause_b28 N t = some t := fun t ht => by
    unfold fX12_readClause_b28
    rw [fine_f ht, Option.bind_some, if_pos rfl]
    exact b45 t ht
  refine ⟨fun t ht => ?_, fun t i l h => ?_⟩
  · unfold fX12_readClause
    rw [fine_f ht, Option.bind_some, if_pos rfl]
    exact b28 t ht
  · obtain ⟨c1, c2, c3, c4⟩ := code_at hT h
    have r := tc_rng hT i
    have e13 : fX12_in (zI (tcS T L i)) 1 3 = some (bI (decide (1 ≤ tcS T L i ∧ tcS T L i ≤ 3))) := e_in (b := 1) (c := 3) (by omega) (by omega) (by omega) (by omega) (by omega) (by omega)
    have ef : fX12_readClause N t = if 1 ≤ tcS T L i ∧ tcS T L i ≤ 3 then fX12_readClause_b28 N t else (fX12_faults t).bind fun y3 => fX12_readClause_b28 N y3 := by
      unfold fX12_readClause
      rw [fine_t h.2.2.2.2.1, Option.bind_some, if_neg (by decide)]
      simp only [c1, if_true, c2, e13, Option.bind_some, if_bI, decide_eq_true_eq]
    rw [ef]
    unfold pClause
    by_cases q : 1 ≤ tcS T L i ∧ tcS T L i ≤ 3
    · rw [if_pos q, if_pos q]
      obtain ⟨s1, s2⟩ := r_step h (tc_0 (by omega))
      have eb : fX12_readClause_b28 N t = (fX12_readSum N 10 0 (si t 0 34 (gi t 0 34 + 1))).bind fun y6 => ((fX12_takes 4 y6).bind fun y7 => (if y7.1 = 0 then (some y7.2) else ((fX12_readTest N 10 0 y7.2).bind fun y8 => (some y8)))) := by
        unfold fX12_readClause_b28
        rw [fine_t h.2.2.2.2.1, Option.bind_some, if_neg (by decide)]
        simp only [nmM]
        rfl
      rw [eb]
      obtain ⟨ko, ke⟩ := hS.2 _ (i + 1) l s1
      cases hp : pSum (tcS T L) (tvS T L) (pIn (tcS T L) (tvS T L) 8) (i + 1) l with
      | error p =>
        obtain ⟨t2, e2, b2, f2⟩ := ke p hp
        refine ⟨fun b j l' hb => by simp [bd] at hb, fun p' hb => ?_⟩
        have : p = p' := by simpa [bd] using hb
        subst this
        refine ⟨t2, ?_, b2, frT_trans s2 f2⟩
        rw [e2, Option.bind_some, takes_bad _ (bad_ne hT b2), Option.bind_some, if_pos rfl]
      | ok x =>
        obtain ⟨b, j, l'⟩ := x
        obtain ⟨t2, e2, r2, f2, ij⟩ := ko b j l' hp
        obtain ⟨k1, k2⟩ := r_takes hT r2 (c := 4) (by omega) (by omega)
        rw [e2, Option.bind_some]
        show (∀ b' j' l'', (if tcS T L j = 4 then bd (pTest (tcS T L) (tvS T L) (pIn (tcS T L) (tvS T L) 8) (pInT (tcS T L) (tvS T L) 8) (j + 1) l') (fun b2 j2 l2 => .ok ((tcS T L i - 1, b, some b2), j2, l2)) else .ok ((tcS T L i - 1, b, none), j, l')) = .ok (b', j', l'') → _) ∧ (∀ p, (if tcS T L j = 4 then bd (pTest (tcS T L) (tvS T L) (pIn (tcS T L) (tvS T L) 8) (pInT (tcS T L) (tvS T L) 8) (j + 1) l') (fun b2 j2 l2 => .ok ((tcS T L i - 1, b, some b2), j2, l2)) else .ok ((tcS T L i - 1, b, none), j, l')) = .error p → _)
        by_cases q4 : tcS T L j = 4
        · rw [if_pos q4]
          obtain ⟨t3, e3, r3, f3⟩ := k1 q4
          have e3' : fX12_takes 4 t2 = some (1, t3) := e3
          rw [e3', Option.bind_some, if_neg (show ¬ ((1 : Int32), t3).1 = 0 from n10)]
          obtain ⟨mo, me⟩ := hQ.2 t3 (j + 1) l' r3
          cases hp2 : pTest (tcS T L) (tvS T L) (pIn (tcS T L) (tvS T L) 8) (pInT (tcS T L) (tvS T L) 8) (j + 1) l' with
          | error p =>
            obtain ⟨t4, e4, b4, f4⟩ := me p hp2
            refine ⟨fun b j l' hb => by simp [bd] at hb, fun p' hb => ?_⟩
            have : p = p' := by simpa [bd] using hb
            subst this
            exact ⟨t4, by rw [e4, Option.bind_some], b4, frT_trans s2 (frT_trans f2 (frT_trans f3 f4))⟩
          | ok x =>
            obtain ⟨b2, j2, l2⟩ := x
            obtain ⟨t4, e4, r4, f4, ij4⟩ := mo b2 j2 l2 hp2
            refine ⟨fun b' j' l'' hb => ?_, fun p' hb => by simp [bd] at hb⟩
            simp only [bd, Except.ok.injEq, Prod.mk.injEq] at hb
            obtain ⟨p1, p2, p3⟩ := hb
            subst p2 p3
            exact ⟨t4, by rw [e4, Option.bind_some], r4, frT_trans s2 (frT_trans f2 (frT_trans f3 f4)), by omega⟩
        · rw [if_neg q4]
          have e3 : fX12_takes 4 t2 = some (0, t2) := k2 q4
          refine ⟨fun b' j' l'' hb => ?_, fun p' hb => by simp at hb⟩
          simp only [Except.ok.injEq, Prod.mk.injEq] at hb
          obtain ⟨p1, p2, p3⟩ := hb
          subst p2 p3
          exact ⟨t2, by rw [e3, Option.bind_some, if_pos rfl], r2, frT_trans s2 f2, by omega⟩
    · rw [if_neg q, if_neg q]
      refine ⟨fun b j l' hb => by simp at hb, fun p hb => ?_⟩
      have : i = p := by simpa using hb
      subst this
      obtain ⟨t', e, b, f⟩ := r_faults hT h
      exact ⟨t', by rw [e, Option.bind_some, b28 t' (bad_ne hT b)], b, f⟩
def frW (τ t : qMem) : Prop := ∀ k j, ¬ (k = 0 ∧ (j = 29 ∨ (34 ≤ j ∧ j ≤ 36))) → gi t k j = gi τ k j
theorem r_lawL {N : Nat} (hN : 200000 ≤ N) (hT : okT T L) : (∀ n v t p, gi t 0 36 = zI (tkF T L p) → ∃ t', fX12_reads_l34 N (n + 1) v t = some (0, t') ∧ gi t' 0 29 = zI (tkF T L p) ∧ frW t t') ∧ ∀ (f n : Nat) (a : List CL) (t : qMem) (i l : Nat), 500 ≤ f + i → L + 1 < n + i → a.length ≤ 12 → gi t 0 33 = zI (tkM T L) → Rt T L i l t →
    ∃ t', fX12_reads_l34 N n (zI a.length) t = some (bI (decide (ftP T L (pLawL (tcS T L) (tvS T L) f a i l) = -1)), t') ∧ gi t' 0 29 = zI (ftP T L (pLawL (tcS T L) (tvS T L) f a i l)) ∧ frW t t' := by
  have hM := tkM_le T L
  have hL := hT.1
  have b95 : ∀ t p, gi t 0 36 = zI (tkF T L p) → ∃ t', fX12_reads_b95 N t = some (0, t') ∧ gi t' 0 29 = zI (tkF T L p) ∧ frW t t' := fun t p h => by
    unfold fX12_reads_b95
    simp only [nmM]
    have g36 : gi (si t 0 29 (gi t 0 36)) 0 36 = gi t 0 36 := by rw [gi_si, if_neg (by omega)]
    rw [fine_f (by rw [g36]; exact bad_ne hT h), Option.bind_some, if_pos (Or.inl rfl)]
    exact ⟨_, rfl, by rw [gi_si, if_pos ⟨rfl, rfl⟩]; exact h, fun k j hk => by rw [gi_si, if_neg (by omega)]⟩
  have ebad : ∀ n v t p, gi t 0 36 = zI (tkF T L p) → ∃ t', fX12_reads_l34 N (n + 1) v t = some (0, t') ∧ gi t' 0 29 = zI (tkF T L p) ∧ frW t t' := by
    intro n v t p h
    have bn := bad_ne hT h
    obtain ⟨t', e, r⟩ := b95 t p h
    refine ⟨t', ?_, r⟩
    show fX12_reads_s34 N _ v t = _
    unfold fX12_reads_s34 fX12_sign
    rw [Option.bind_some, takes_bad _ bn, Option.bind_some, if_pos rfl]
    show (fX12_fine t).bind _ = _
    rw [fine_f bn, Option.bind_some, if_pos rfl]
    exact e
  have FW : ∀ {a b : qMem}, frT a b → frW a b := fun h k j hk => h k j (by omega)
  have FT : ∀ {a b c : qMem}, frW a b → frW b c → frW a c := fun h h2 k j hk => (h2 k j hk).trans (h k j hk)
  refine ⟨ebad, ?_⟩
  have ge0 : ∀ p, (tkF T L p : Int) ≠ -1 := fun p => by omega
  intro f
  induction f with
  | zero => intro n a t i l hf hn _ _ h; have := h.2.1; omega
  | succ f ih =>
    intro n a t i l hf hn ha h33 h
    have hiM := h.2.1
    obtain ⟨n, rfl⟩ : ∃ k, n = k + 1 := ⟨n - 1, by omega⟩
    obtain ⟨k1, k2⟩ := r_takes hT h (c := 159) (by omega) (by omega)
    unfold pLawL
    by_cases q : tcS T L i = 159
    · rw [if_pos q]
      have hlt : i < tkM T L := tc_0 (by omega)
      obtain ⟨t1, e1, r1, f1⟩ := k1 q
      obtain ⟨n, rfl⟩ : ∃ k, n = k + 1 := ⟨n - 1, by omega⟩
      have c12 : (zI a.length = 12) = (12 ≤ a.length) := by rw [show (12 : Int32) = zI 12 from rfl, zI_eq (by omega) (by omega) (by omega) (by omega)]; exact propext (by omega)
      have nx : zI a.length + 1 = zI ((a.length + 1 : Nat) : Int) := by rw [show (1 : Int32) = zI 1 from rfl, zI_add]; rfl
      have ef : fX12_reads_l34 N (n + 1 + 1) (zI a.length) t = if 12 ≤ a.length then ((fX12_faults t1).bind fun y11 => (fX12_reads_b56 N (fX12_reads_l34 N (n + 1)) (zI a.length) y11)) else fX12_reads_b56 N (fX12_reads_l34 N (n + 1)) (zI a.length) t1 := by
        show fX12_reads_s34 N _ (zI a.length) t = _
        unfold fX12_reads_s34 fX12_sign
        have e1' : fX12_takes (100 + 59) t = some (1, t1) := e1
        rw [Option.bind_some, e1', Option.bind_some, if_neg (show ¬ ((1 : Int32), t1).1 = 0 from n10)]
        simp only [c12]
      rw [ef]
      by_cases q2 : 12 ≤ a.length
      · rw [if_pos q2, if_pos q2]
        obtain ⟨t2, e2, b2, f2⟩ := r_faults hT r1
        obtain ⟨t3, e3, g3, f3⟩ := ebad n (zI a.length + 1) t2 (i + 1) b2
        refine ⟨t3, ?_, ?_, FT (FW (frT_trans f1 f2)) f3⟩
        · rw [e2, Option.bind_some]
          unfold fX12_reads_b56 fX12_reads_b67
          rw [fine_f (bad_ne hT b2), Option.bind_some, if_pos rfl, e3]
          show _ = some (bI (decide ((tkF T L (i + 1) : Int) = -1)), t3)
          rw [decide_eq_false (ge0 _)]; rfl
        · exact g3
      · rw [if_neg q2, if_neg q2]
        have eb : fX12_reads_b56 N (fX12_reads_l34 N (n + 1)) (zI a.length) t1 = (fX12_readClause N t1).bind fun y13 => fX12_reads_l34 N (n + 1) (zI ((a.length + 1 : Nat) : Int)) y13 := by
          unfold fX12_reads_b56 fX12_reads_b67
          rw [fine_t r1.2.2.2.2.1, Option.bind_some, if_neg (by decide), nx]
        rw [eb]
        obtain ⟨ko, ke⟩ := (r_clause hN hT).2 t1 (i + 1) l r1
        cases hp : pClause (tcS T L) (tvS T L) (i + 1) l with
        | error p =>
          obtain ⟨t2, e2, b2, f2⟩ := ke p hp
          obtain ⟨t3, e3, g3, f3⟩ := ebad n (zI ((a.length + 1 : Nat) : Int)) t2 p b2
          refine ⟨t3, ?_, g3, FT (FW (frT_trans f1 f2)) f3⟩
          rw [e2, Option.bind_some, e3]
          show _ = some (bI (decide ((tkF T L p : Int) = -1)), t3)
          rw [decide_eq_false (ge0 _)]; rfl
        | ok x =>
          obtain ⟨b, j, l'⟩ := x
          obtain ⟨t2, e2, r2, f2, ij⟩ := ko b j l' hp
          rw [e2, Option.bind_some]
          have al : (a ++ [b]).length = a.length + 1 := by rw [List.length_append, List.length_cons, List.length_nil]
          obtain ⟨t3, e3, g3, f3⟩ := ih (n + 1) (a ++ [b]) t2 j l' (by omega) (by omega) (by omega) (by rw [f2 _ _ (by omega), f1 _ _ (by omega)]; exact h33) r2
          rw [al] at e3
          exact ⟨t3, e3, g3, FT (FW (frT_trans f1 f2)) f3⟩
    · rw [if_neg q]
      have e0 : fX12_takes (100 + 59) t = some (0, t) := k2 q
      have c33 : (gi t 0 33 ≤ gi t 0 34) = ¬ (i < tkM T L) := by rw [h33, h.1, zI_le (by omega) (by omega) (by omega) (by omega)]; exact propext (by omega)
      have ef : fX12_reads_l34 N (n + 1) (zI a.length) t = if ¬ (i < tkM T L) then fX12_reads_b95 N t else (fX12_faults t).bind fun y10 => fX12_reads_b95 N y10 := by
        show fX12_reads_s34 N _ (zI a.length) t = _
        unfold fX12_reads_s34 fX12_sign
        rw [Option.bind_some, e0, Option.bind_some, if_pos rfl]
        show (fX12_fine t).bind _ = _
        rw [fine_t h.2.2.2.2.1, Option.bind_some, if_neg (by decide)]
        simp only [c33]
      rw [ef]
      show ∃ t', _ = some (bI (decide ((if i < tkM T L then (tkF T L i : Int) else -1) = -1)), t') ∧ gi t' 0 29 = zI (if i < tkM T L then (tkF T L i : Int) else -1) ∧ _
      by_cases y : i < tkM T L
      · rw [if_neg (fun z => z y), if_pos y]
        obtain ⟨t2, e2, b2, f2⟩ := r_faults hT h
        obtain ⟨t3, e3, g3, f3⟩ := b95 t2 i b2
        refine ⟨t3, ?_, g3, FT (FW f2) f3⟩
        rw [e2, Option.bind_some, e3, decide_eq_false (ge0 _)]; rfl
      · rw [if_pos y, if_neg y]
        unfold fX12_reads_b95
        simp only [nmM]
        have g36 : gi (si t 0 29 (gi t 0 36)) 0 36 = -1 := by rw [gi_si, if_neg (by omega)]; exact h.2.2.2.2.1
        rw [fine_t g36, Option.bind_some, if_pos (Or.inr rfl)]
        exact ⟨_, rfl, by rw [gi_si, if_pos ⟨rfl, rfl⟩]; exact h.2.2.2.2.1, fun k j hk => by rw [gi_si, if_neg (by omega)]⟩
/-- a law is read -/
theorem r_reads {N : Nat} {τ : qMem} (hN : 200000 ≤ N) (hT : okT T L) (hs : sgn T U L) (h28 : gi τ 0 28 = zI L) (h18 : ∀ j, j < L → gi τ 18 j = zI (U j)) (h17 : ∀ j x, wordsL[j]? = some x → gi τ 17 j = zI x) :
    ∃ t, fX12_reads N τ = some (bI (decide (ftP T L (pLaw (tcS T L) (tvS T L)) = -1)), t) ∧ gi t 0 29 = zI (ftP T L (pLaw (tcS T L) (tvS T L))) ∧ gi t 0 28 = 0 ∧ gi t 0 33 = zI (tkM T L) ∧ tkK T L t ∧ ∀ k j, ¬ ((k = 0 ∧ (j = 28 ∨ j = 29 ∨ (33 ≤ j ∧ j ≤ 36))) ∨ k = 20 ∨ k = 21 ∨ k = 22) → gi t k j = gi τ k j := by
  have hM := tkM_le T L
  have hL := hT.1
  obtain ⟨t0, e0, sf, s33, sq⟩ := Ho_get (r_splits (τ := τ) hN hT hs h18 h17)
  unfold fX12_reads
  rw [h28, e0, Option.bind_some]
  simp only [nmM]
  generalize ht1 : si (si (si (si t0 0 28 0) 0 34 0) 0 35 0) 0 36 (-1) = t1
  have g1 : ∀ k j, gi t1 k j = if k = 0 ∧ j = 36 then -1 else if k = 0 ∧ j = 35 then 0 else if k = 0 ∧ j = 34 then 0 else if k = 0 ∧ j = 28 then 0 else gi t0 k j := by intro k j; rw [← ht1]; simp only [gi_si]
  have o1 : ∀ k j, ¬ (k = 0 ∧ (j = 28 ∨ (34 ≤ j ∧ j ≤ 36))) → gi t1 k j = gi t0 k j := fun k j hk => by rw [g1, if_neg (by omega), if_neg (by omega), if_neg (by omega), if_neg (by omega)]
  have hR : Rt T L 0 0 t1 := by
    refine ⟨?_, by omega, ?_, by omega, ?_, fun q hq => ?_⟩
    · rw [g1, if_neg (by omega), if_neg (by omega), if_pos ⟨rfl, rfl⟩]; rfl
    · rw [g1, if_neg (by omega), if_pos ⟨rfl, rfl⟩]; rfl
    · rw [g1, if_pos ⟨rfl, rfl⟩]
    · obtain ⟨a, b, c⟩ := sq q hq
      exact ⟨(o1 _ _ (by omega)).trans a, (o1 _ _ (by omega)).trans b, (o1 _ _ (by omega)).trans c⟩
  have h28' : gi t1 0 28 = 0 := by rw [g1, if_neg (by omega), if_neg (by omega), if_neg (by omega), if_pos ⟨rfl, rfl⟩]
  have fin : ∀ (o : Except Nat (List CL × Nat × Nat)) (F : Option (Int32 × qMem)) (t2 : qMem), frT t1 t2 → (∃ t', F = some (bI (decide (ftP T L o = -1)), t') ∧ gi t' 0 29 = zI (ftP T L o) ∧ frW t2 t') → ∃ t, F = some (bI (decide (ftP T L o = -1)), t) ∧ gi t 0 29 = zI (ftP T L o) ∧ gi t 0 28 = 0 ∧ gi t 0 33 = zI (tkM T L) ∧ tkK T L t ∧ ∀ k j, ¬ ((k = 0 ∧ (j = 28 ∨ j = 29 ∨ (33 ≤ j ∧ j ≤ 36))) ∨ k = 20 ∨ k = 21 ∨ k = 22) → gi t k j = gi τ k j := by
    intro o F t2 f2 ⟨t', e, g, f⟩
    refine ⟨t', e, g, ?_, ?_, fun q hq => ?_, fun k j hk => ?_⟩
    · rw [f _ _ (by omega), f2 _ _ (by omega)]; exact h28'
    · rw [f _ _ (by omega), f2 _ _ (by omega), o1 _ _ (by omega)]; exact s33
    · obtain ⟨a, b, c⟩ := sq q hq
      refine ⟨?_, ?_, ?_⟩
      · rw [f _ _ (by omega), f2 _ _ (by omega), o1 _ _ (by omega)]; exact a
      · rw [f _ _ (by omega), f2 _ _ (by omega), o1 _ _ (by omega)]; exact b
      · rw [f _ _ (by omega), f2 _ _ (by omega), o1 _ _ (by omega)]; exact c
    · rw [f _ _ (by omega), f2 _ _ (by omega), o1 _ _ (by omega)]; exact sf k j (by omega)
  obtain ⟨ko, ke⟩ := (r_clause hN hT).2 t1 0 0 hR
  obtain ⟨lb, ll⟩ := r_lawL hN hT
  unfold pLaw
  cases hp : pClause (tcS T L) (tvS T L) 0 0 with
  | error p =>
    obtain ⟨t2, e2, b2, f2⟩ := ke p hp
    rw [e2, Option.bind_some]
    obtain ⟨M, eM⟩ : ∃ k, N = k + 1 := ⟨N - 1, by omega⟩
    obtain ⟨t3, e3, g3, f3⟩ := lb M 1 t2 p b2
    rw [← eM] at e3
    refine fin (.error p) _ t2 f2 ⟨t3, ?_, g3, f3⟩
    rw [e3]
    show _ = some (bI (decide ((tkF T L p : Int) = -1)), t3)
    rw [decide_eq_false (by omega)]; rfl
  | ok x =>
    obtain ⟨b, j, l'⟩ := x
    obtain ⟨t2, e2, r2, f2, ij⟩ := ko b j l' hp
    rw [e2, Option.bind_some]
    have := ll 500 N [b] t2 j l' (by omega) (by omega) (by show 1 ≤ 12; omega) (by rw [f2 _ _ (by omega), o1 _ _ (by omega)]; exact s33) r2
    exact fin _ _ t2 f2 this
end RL
