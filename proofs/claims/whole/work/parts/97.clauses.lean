/-! the class reads: clauses, a law -/
def clT (s : Nat) (c : CL) : List (Int × Int) := match c.2.2 with
  | none => []
  | some b => b.1 (s + c.2.1.1.length)
def clC (s : Nat) (c : CL) : List (Int × Int) := c.2.1.1 ++ clT s c
def lawC : Nat → List CL → List (Int × Int)
  | _, [] => []
  | s, c :: cs => clC s c ++ lawC (s + (clC s c).length) cs
def lawR : Nat → List CL → List (Int × Nat × Nat × Nat)
  | _, [] => []
  | s, c :: cs => (c.1, s, s + c.2.1.1.length, s + (clC s c).length) :: lawR (s + (clC s c).length) cs
theorem lawC_add (b : CL) : ∀ (a : List CL) (s : Nat), lawC s (a ++ [b]) = lawC s a ++ clC (s + (lawC s a).length) b
  | [], s => by simp [lawC]
  | c :: cs, s => by
    show clC s c ++ lawC (s + (clC s c).length) (cs ++ [b]) = (clC s c ++ lawC (s + (clC s c).length) cs) ++ clC (s + (clC s c ++ lawC (s + (clC s c).length) cs).length) b
    rw [lawC_add b cs, List.append_assoc, List.length_append, Nat.add_assoc]
theorem lawR_len : ∀ (a : List CL) (s : Nat), (lawR s a).length = a.length
  | [], _ => rfl
  | c :: cs, s => by show (lawR _ cs).length + 1 = cs.length + 1; rw [lawR_len cs]
theorem lawR_add (b : CL) : ∀ (a : List CL) (s : Nat), lawR s (a ++ [b]) = lawR s a ++ [(b.1, s + (lawC s a).length, s + (lawC s a).length + b.2.1.1.length, s + (lawC s a).length + (clC (s + (lawC s a).length) b).length)]
  | [], s => by simp [lawC, lawR]
  | c :: cs, s => by
    show (_ :: lawR (s + (clC s c).length) (cs ++ [b])) = (_ :: lawR (s + (clC s c).length) cs) ++ [(b.1, s + (clC s c ++ lawC (s + (clC s c).length) cs).length, s + (clC s c ++ lawC (s + (clC s c).length) cs).length + b.2.1.1.length, s + (clC s c ++ lawC (s + (clC s c).length) cs).length + (clC (s + (clC s c ++ lawC (s + (clC s c).length) cs).length) b).length)]
    rw [lawR_add b cs, List.length_append, ← Nat.add_assoc, List.cons_append]
/-- steps and clauses, as they lie in a law's cells -/
def cdOK (m : Nat → Nat → Int32) (K : Nat) (c : List (Int × Int)) : Prop := ∀ k x, c[k]? = some x → m (K + 3) k = zI x.1 ∧ m (K + 4) k = zI x.2
def rwOK (m : Nat → Nat → Int32) (K : Nat) (r : List (Int × Nat × Nat × Nat)) : Prop := m (K + 1) 3 = zI r.length ∧ ∀ k x, r[k]? = some x → m (K + 2) (4 * k) = zI x.1 ∧ m (K + 2) (4 * k + 1) = zI x.2.1 ∧ m (K + 2) (4 * k + 2) = zI x.2.2.1 ∧ m (K + 2) (4 * k + 3) = zI x.2.2.2
theorem cd_grew {c d : List (Int × Int)} {σ σ' : qMem} (h : cdOK σ.1 78 c) (g : grew c.length d σ σ') : cdOK σ'.1 78 (c ++ d) := by
  intro k x hk
  by_cases q : k < c.length
  · rw [List.getElem?_append_left q] at hk
    have a := h k x hk
    have b := g.1 k q
    exact ⟨b.1.trans a.1, b.2.trans a.2⟩
  · rw [List.getElem?_append_right (by omega)] at hk
    have a := g.2 _ x hk
    rw [show c.length + (k - c.length) = k by omega] at a
    exact a
def frQ (σ σ' : qMem) : Prop := ∀ k j, ¬ (77 ≤ k ∧ k ≤ 82 ∧ ¬ (k = 79 ∧ j ≤ 1)) → gi σ' k j = gi σ k j
theorem frQ_R {σ σ' : qMem} (h : frR σ σ') : frQ σ σ' := fun k j hk => h k j (by omega)
theorem frQ_trans {a b c : qMem} (h : frQ a b) (h2 : frQ b c) : frQ a c := fun k j hk => (h2 k j hk).trans (h k j hk)
/-- clauses read so far -/
def Lw (a : List CL) (σ : qMem) : Prop := gi σ 79 0 = 4 ∧ gi σ 79 1 = 12 ∧ cdOK σ.1 78 (lawC 0 a) ∧ rwOK σ.1 78 (lawR 0 a)
section RC2
variable {T : Nat → Int} {L : Nat}
theorem k_tail {N : Nat} {σ : qMem} {i l t : Nat} {a : List CL} {b : CL} (hT : okT T L) (ha : a.length < 12) (h : St T L i l ((lawC 0 a).length + (clC (lawC 0 a).length b).length) σ) (w0 : gi σ 79 0 = 4) (w1 : gi σ 79 1 = 12) (hc : cdOK σ.1 78 (lawC 0 a ++ clC (lawC 0 a).length b)) (hr : rwOK σ.1 78 (lawR 0 a)) (ht : t = (lawC 0 a).length + b.2.1.1.length) :
    ∃ σ', fX6_readClause_b101 N (zI b.1) (zI (lawC 0 a).length) (zI t) σ = some (1, σ') ∧ St T L i l (lawC 0 (a ++ [b])).length σ' ∧ Lw (a ++ [b]) σ' ∧ frQ σ σ' := by
  have h5 := h.2.2.2.2.1
  have e3 : gi σ 79 3 = zI (a.length : Nat) := by have := hr.1; rw [lawR_len] at this; exact this
  obtain ⟨σ1, e1, g1⟩ := e_add (n := 48) (zI b.1) (zI (lawC 0 a).length) (zI t) (gi σ 78 5) 0 (show gi σ 79 0 = zI 4 from w0) (show gi σ 79 1 = zI 12 from w1) e3 (by omega) (by omega) (by omega) (by omega) (by omega) (by omega)
  have f : ∀ k j, ¬ ((k = 79 ∧ j = 3) ∨ k = 80) → gi σ1 k j = gi σ k j := fun k j hk => by rw [g1, if_neg (by omega), if_neg (by omega)]
  refine ⟨σ1, ?_, ?_, ⟨(f _ _ (by omega)).trans w0, (f _ _ (by omega)).trans w1, ?_, ?_, ?_⟩, fun k j hk => f k j (by omega)⟩
  · unfold fX6_readClause_b101
    rw [e1, Option.bind_some]
  · rw [lawC_add, Nat.zero_add, List.length_append]
    exact ⟨atK_fr h.1 (fun k j hk => f k j (by omega)), h.2.1, (f _ _ (by omega)).trans h.2.2.1, h.2.2.2.1, (f _ _ (by omega)).trans h5, h.2.2.2.2.2⟩
  · rw [lawC_add, Nat.zero_add]
    intro k x hk
    have := hc k x hk
    exact ⟨(f 81 k (by omega)).trans this.1, (f 82 k (by omega)).trans this.2⟩
  · rw [lawR_len, List.length_append]
    show gi σ1 79 3 = _
    rw [g1, if_pos ⟨rfl, rfl⟩]
    rfl
  · rw [lawR_add, Nat.zero_add]
    intro k x hk
    show gi σ1 80 _ = _ ∧ gi σ1 80 _ = _ ∧ gi σ1 80 _ = _ ∧ gi σ1 80 _ = _
    by_cases q : k < a.length
    · rw [List.getElem?_append_left (by rw [lawR_len]; exact q)] at hk
      have := hr.2 k x hk
      refine ⟨?_, ?_, ?_, ?_⟩
      · rw [g1, if_neg (by omega), if_neg (by omega)]; exact this.1
      · rw [g1, if_neg (by omega), if_neg (by omega)]; exact this.2.1
      · rw [g1, if_neg (by omega), if_neg (by omega)]; exact this.2.2.1
      · rw [g1, if_neg (by omega), if_neg (by omega)]; exact this.2.2.2
    · rw [List.getElem?_append_right (by rw [lawR_len]; omega), lawR_len] at hk
      by_cases q2 : k = a.length
      · subst q2
        rw [Nat.sub_self] at hk
        have hk' := Option.some.inj hk
        subst hk'
        refine ⟨?_, ?_, ?_, ?_⟩
        · rw [g1, if_neg (by omega), if_pos ⟨rfl, by omega, by omega⟩, show 4 * a.length - ((a.length : Int) * 4).toNat = 0 by omega]; rfl
        · rw [g1, if_neg (by omega), if_pos ⟨rfl, by omega, by omega⟩, show 4 * a.length + 1 - ((a.length : Int) * 4).toNat = 1 by omega]; rfl
        · rw [g1, if_neg (by omega), if_pos ⟨rfl, by omega, by omega⟩, show 4 * a.length + 2 - ((a.length : Int) * 4).toNat = 2 by omega, ht]; rfl
        · rw [g1, if_neg (by omega), if_pos ⟨rfl, by omega, by omega⟩, show 4 * a.length + 3 - ((a.length : Int) * 4).toNat = 3 by omega]; exact h5
      · exfalso
        rw [List.getElem?_eq_none (by simp only [List.length_cons, List.length_nil]; omega)] at hk
        simp at hk
theorem k_clause {N : Nat} {σ : qMem} {i l : Nat} {a : List CL} (hN : 200000 ≤ N) (hT : okT T L) (ha : a.length < 12) (h : St T L i l (lawC 0 a).length σ) (hw : Lw a σ) :
    (∀ b j l', pClause (tcS T L) (tvS T L) i l = .ok (b, j, l') → ∃ σ', fX6_readClause N σ = some (1, σ') ∧ St T L j l' (lawC 0 (a ++ [b])).length σ' ∧ Lw (a ++ [b]) σ' ∧ frQ σ σ' ∧ i < j) ∧ (∀ p, pClause (tcS T L) (tvS T L) i l = .error p → ∃ σ', fX6_readClause N σ = some (0, σ') ∧ gi σ' 77 4 = zI (tkF T L p) ∧ frQ σ σ') := by
  have hM := tkM_le T L
  have hL := hT.1
  have hA := h.1
  obtain ⟨w0, w1, wc, wr⟩ := hw
  have f0 : fX6_isWord 0 σ = some (bI (decide (tcS T L i = 1))) := e_isWord hT hA (w := 0) (by omega)
  have f1 : fX6_isWord 1 σ = some (bI (decide (tcS T L i = 2))) := e_isWord hT hA (w := 1) (by omega)
  have f2 : fX6_isWord 2 σ = some (bI (decide (tcS T L i = 3))) := e_isWord hT hA (w := 2) (by omega)
  have ef : fX6_readClause N σ = fX6_readClause_b40 N (zI (if 1 ≤ tcS T L i ∧ tcS T L i ≤ 3 then tcS T L i - 1 else -1)) σ := by
    unfold fX6_readClause
    simp only [f0, f1, f2, Option.bind_some, if_bI, decide_eq_true_eq]
    by_cases q0 : tcS T L i = 1
    · rw [if_pos q0, q0]; rfl
    · rw [if_neg q0]
      by_cases q1 : tcS T L i = 2
      · rw [if_pos q1, q1]; rfl
      · rw [if_neg q1]
        by_cases q2 : tcS T L i = 3
        · rw [if_pos q2, q2]; rfl
        · rw [if_neg q2, if_neg (by omega)]; rfl
  rw [ef]
  unfold pClause
  by_cases q : 1 ≤ tcS T L i ∧ tcS T L i ≤ 3
  · rw [if_pos q, if_pos q]
    have hlt : i < tkM T L := tc_0 (by omega)
    have c1 : (zI (tcS T L i - 1) = -1) = False := by rw [show (-1 : Int32) = zI (-1) from rfl, zI_eq (by omega) (by omega) (by omega) (by omega)]; exact eq_false (by omega)
    obtain ⟨σ1, e1, s1, g1, r1⟩ := St_next hN hT h hlt
    obtain ⟨iE, iB⟩ := k_inner hN hT 8 10 0 (by omega) (by omega)
    have aE := adv_in (tc := tcS T L) (tv := tvS T L) (n := tkM T L) (fun _ z => tc_0 z) 8
    have aB := adv_inT (tc := tcS T L) (tv := tvS T L) (n := tkM T L) (fun _ z => tc_0 z) 8
    have h5 := s1.2.2.2.2.1
    obtain ⟨ko, ke⟩ := k_sum hN hT iE aE σ1 (i + 1) l _ s1
    have av := adv_sum (tc := tcS T L) (tv := tvS T L) (n := tkM T L) (fun _ z => tc_0 z) aE (i + 1) l
    cases hp : pSum (tcS T L) (tvS T L) (pIn (tcS T L) (tvS T L) 8) (i + 1) l with
    | error p =>
      obtain ⟨σ2, e2, t2, r2⟩ := ke p hp
      refine ⟨fun b j l' hb => by simp [bd] at hb, fun p' hb => ?_⟩
      have : p = p' := by simpa [bd] using hb
      subst this
      refine ⟨σ2, ?_, t2, frQ_R (frR_trans r1 r2)⟩
      unfold fX6_readClause_b40
      simp only [c1, if_false]
      have e2' : fX6_readSum N (fX6_readInner N 10) 0 σ1 = some (0, σ2) := e2
      rw [e1, Option.bind_some, e2', Option.bind_some, if_pos rfl]
    | ok x =>
      obtain ⟨b, j, l'⟩ := x
      obtain ⟨σ2, e2, s2, g2, r2⟩ := ko b j l' hp
      have e2' : fX6_readSum N (fX6_readInner N 10) 0 σ1 = some (1, σ2) := e2
      have aj := av b j l' hp
      have h52 := s2.2.2.2.2.1
      have f4 : fX6_isWord 3 σ2 = some (bI (decide (tcS T L j = 4))) := e_isWord hT s2.1 (w := 3) (by omega)
      have eb : fX6_readClause_b40 N (zI (tcS T L i - 1)) σ = if tcS T L j = 4 then ((fX6_move N σ2).bind fun y7 => ((fX6_readTest N (fX6_readInner N 10) 0 y7).bind fun y8 => (if y8.1 = 0 then (some (0, y8.2)) else (fX6_readClause_b101 N (zI (tcS T L i - 1)) (zI (lawC 0 a).length) (zI ((lawC 0 a).length + b.1.length : Nat)) y8.2)))) else fX6_readClause_b101 N (zI (tcS T L i - 1)) (zI (lawC 0 a).length) (zI ((lawC 0 a).length + b.1.length : Nat)) σ2 := by
        unfold fX6_readClause_b40
        simp only [c1, if_false]
        rw [e1, Option.bind_some, e2', Option.bind_some, if_neg (show ¬ ((1 : Int32), σ2).1 = 0 from n10), f4, Option.bind_some, if_bI, h5]
        simp only [decide_eq_true_eq]
        rw [h52]
      rw [eb]
      have gg : grew (lawC 0 a).length b.1 σ σ2 := by
        have := grew_trans g1 (c := []) (d := b.1) g2
        simpa using this
      have wc2 := cd_grew wc gg
      have wr2 : rwOK σ2.1 78 (lawR 0 a) := by
        refine ⟨?_, fun k x hk => ?_⟩
        · exact (frR_trans r1 r2 79 3 (by omega)).trans wr.1
        · have := wr.2 k x hk
          exact ⟨(frR_trans r1 r2 80 _ (by omega)).trans this.1, (frR_trans r1 r2 80 _ (by omega)).trans this.2.1, (frR_trans r1 r2 80 _ (by omega)).trans this.2.2.1, (frR_trans r1 r2 80 _ (by omega)).trans this.2.2.2⟩
      show (∀ b' j' l'', (if tcS T L j = 4 then bd (pTest (tcS T L) (tvS T L) (pIn (tcS T L) (tvS T L) 8) (pInT (tcS T L) (tvS T L) 8) (j + 1) l') (fun b2 j2 l2 => .ok ((tcS T L i - 1, b, some b2), j2, l2)) else .ok ((tcS T L i - 1, b, none), j, l')) = .ok (b', j', l'') → _) ∧ (∀ p, (if tcS T L j = 4 then bd (pTest (tcS T L) (tvS T L) (pIn (tcS T L) (tvS T L) 8) (pInT (tcS T L) (tvS T L) 8) (j + 1) l') (fun b2 j2 l2 => .ok ((tcS T L i - 1, b, some b2), j2, l2)) else .ok ((tcS T L i - 1, b, none), j, l')) = .error p → _)
      by_cases q4 : tcS T L j = 4
      · rw [if_pos q4, if_pos q4]
        have hlt2 : j < tkM T L := tc_0 (by omega)
        obtain ⟨σ3, e3, s3, g3, r3⟩ := St_next hN hT s2 hlt2
        obtain ⟨mo, me⟩ := k_test hN hT iE iB aE aB σ3 (j + 1) l' _ s3
        have av2 := adv_test (tc := tcS T L) (tv := tvS T L) (n := tkM T L) (fun _ z => tc_0 z) aE aB (j + 1) l'
        rw [e3, Option.bind_some]
        cases hp2 : pTest (tcS T L) (tvS T L) (pIn (tcS T L) (tvS T L) 8) (pInT (tcS T L) (tvS T L) 8) (j + 1) l' with
        | error p =>
          obtain ⟨σ4, e4, t4, r4⟩ := me p hp2
          refine ⟨fun b j l' hb => by simp [bd] at hb, fun p' hb => ?_⟩
          have : p = p' := by simpa [bd] using hb
          subst this
          refine ⟨σ4, ?_, t4, frQ_R (frR_trans (frR_trans r1 r2) (frR_trans r3 r4))⟩
          have e4' : fX6_readTest N (fX6_readInner N 10) 0 σ3 = some (0, σ4) := e4
          rw [e4', Option.bind_some, if_pos rfl]
        | ok x =>
          obtain ⟨b2, j2, l2⟩ := x
          obtain ⟨σ4, e4, s4, g4, r4⟩ := mo b2 j2 l2 hp2
          have aj2 := av2 b2 j2 l2 hp2
          have e4' : fX6_readTest N (fX6_readInner N 10) 0 σ3 = some (1, σ4) := e4
          refine ⟨fun b' j' l'' hb => ?_, fun p hb => by simp [bd] at hb⟩
          simp only [bd, Except.ok.injEq, Prod.mk.injEq] at hb
          obtain ⟨p1, p2, p3⟩ := hb
          subst p1 p2 p3
          rw [e4', Option.bind_some, if_neg (show ¬ ((1 : Int32), σ4).1 = 0 from n10)]
          have rr := frR_trans r3 r4
          have wc4 : cdOK σ4.1 78 (lawC 0 a ++ clC (lawC 0 a).length (tcS T L i - 1, b, some b2)) := by
            show cdOK σ4.1 78 (lawC 0 a ++ (b.1 ++ b2.1 ((lawC 0 a).length + b.1.length)))
            rw [← List.append_assoc]
            refine cd_grew wc2 ?_
            rw [List.length_append]
            have := grew_trans g3 (c := []) (d := b2.1 ((lawC 0 a).length + b.1.length)) g4
            simpa using this
          have wr4 : rwOK σ4.1 78 (lawR 0 a) := by
            refine ⟨?_, fun k x hk => ?_⟩
            · exact (rr 79 3 (by omega)).trans wr2.1
            · have := wr2.2 k x hk
              exact ⟨(rr 80 _ (by omega)).trans this.1, (rr 80 _ (by omega)).trans this.2.1, (rr 80 _ (by omega)).trans this.2.2.1, (rr 80 _ (by omega)).trans this.2.2.2⟩
          have el : (clC (lawC 0 a).length (tcS T L i - 1, b, some b2)).length = b.1.length + (b2.1 ((lawC 0 a).length + b.1.length)).length := by
            show (b.1 ++ b2.1 ((lawC 0 a).length + b.1.length)).length = _
            rw [List.length_append]
          obtain ⟨σ5, e5, s5, l5, r5⟩ := k_tail (N := N) (b := (tcS T L i - 1, b, some b2)) hT ha (by rw [el, ← Nat.add_assoc]; exact s4) ((frR_trans (frR_trans r1 r2) rr 79 0 (by omega)).trans w0) ((frR_trans (frR_trans r1 r2) rr 79 1 (by omega)).trans w1) wc4 wr4 rfl
          exact ⟨σ5, e5, s5, l5, frQ_trans (frQ_R (frR_trans (frR_trans r1 r2) rr)) r5, by omega⟩
      · rw [if_neg q4, if_neg q4]
        refine ⟨fun b' j' l'' hb => ?_, fun p hb => by simp at hb⟩
        simp only [Except.ok.injEq, Prod.mk.injEq] at hb
        obtain ⟨p1, p2, p3⟩ := hb
        subst p1 p2 p3
        have ec : clC (lawC 0 a).length (tcS T L i - 1, b, none) = b.1 := by
          show b.1 ++ [] = b.1
          rw [List.append_nil]
        obtain ⟨σ5, e5, s5, l5, r5⟩ := k_tail (N := N) (b := (tcS T L i - 1, b, none)) hT ha (by rw [ec]; exact s2) ((frR_trans r1 r2 79 0 (by omega)).trans w0) ((frR_trans r1 r2 79 1 (by omega)).trans w1) (by rw [ec]; exact wc2) wr2 rfl
        exact ⟨σ5, e5, s5, l5, frQ_trans (frQ_R (frR_trans r1 r2)) r5, by omega⟩
  · rw [if_neg q, if_neg q]
    refine ⟨fun b j l' hb => by simp at hb, fun p' hb => ?_⟩
    have : i = p' := by simpa using hb
    subst this
    refine ⟨σ, ?_, hA.2.2.1, fun _ _ _ => rfl⟩
    unfold fX6_readClause_b40
    rw [if_pos (by rfl)]
/-- where a text is torn, or -1; what it says -/
def ftP (T : Nat → Int) (L : Nat) : Except Nat (List CL × Nat × Nat) → Int
  | .ok x => if x.2.1 < tkM T L then tkF T L x.2.1 else -1
  | .error p => tkF T L p
def lawQ (T : Nat → Int) (L : Nat) (σ : qMem) (o : Except Nat (List CL × Nat × Nat)) (F : Option (Int32 × qMem)) : Prop := ∃ σ', F = some (zI (ftP T L o), σ') ∧ frQ σ σ' ∧ ∀ a j l', o = .ok (a, j, l') → Lw a σ' ∧ gi σ' 78 5 = zI (lawC 0 a).length ∧ (lawC 0 a).length ≤ 400 ∧ a.length ≤ 12
theorem k_lawL {N : Nat} (hN : 200000 ≤ N) (hT : okT T L) : ∀ (f n c : Nat) (a : List CL) (σ : qMem) (i l : Nat), 500 ≤ f + i → c ≤ i → L < n + i → 1 ≤ a.length → a.length ≤ 12 → St T L i l (lawC 0 a).length σ → Lw a σ → lawQ T L σ (pLawL (tcS T L) (tvS T L) f a i l) (fX6_read_l54 N n (zI c) σ) := by
  have hM := tkM_le T L
  have hL := hT.1
  intro f
  induction f with
  | zero => intro n c a σ i l hf hc hn _ _ h; have := h.2.1; omega
  | succ f ih =>
    intro n c a σ i l hf hc hn ha1 ha h hw
    have hiM := h.2.1
    obtain ⟨n, rfl⟩ : ∃ k, n = k + 1 := ⟨n - 1, by omega⟩
    have hA := h.1
    have g2 := hA.1.2.1
    have f1 : fX6_isSign 59 σ = some (bI (decide (tcS T L i = 159))) := e_isSign (s := 59) hT hA (by omega) (by omega)
    have c0 : (zI L ≤ zI c) = (L ≤ c) := by rw [zI_le (by omega) (by omega) (by omega) (by omega)]; exact propext (by omega)
    have ef : fX6_read_l54 N (n + 1) (zI c) σ = if L ≤ c then fX6_read_b106 N σ else if tcS T L i = 159 then ((fX6_move N σ).bind fun y11 => ((fX8_isFull 79 48 y11).bind fun y12 => (if y12 = 0 then ((fX6_readClause N y11).bind fun y13 => (if y13.1 = 0 then (some ((gi y13.2 77 4), y13.2)) else (fX6_read_l54 N n (zI c + 1) y13.2))) else (some ((gi y11 77 4), y11))))) else fX6_read_b106 N σ := by
      show fX6_read_s54 N _ (zI c) σ = _
      unfold fX6_read_s54
      simp only [g2, c0, f1, Option.bind_some, if_bI, decide_eq_true_eq]
    unfold pLawL
    by_cases q : tcS T L i = 159
    · have hlt : i < tkM T L := tc_0 (by omega)
      have hge := tkF_ge (T := T) (L := L) (i := i)
      have hfl := tk_lt.mp hlt
      rw [if_neg (by omega), if_pos q] at ef
      rw [if_pos q, ef]
      obtain ⟨σ1, e1, s1, g1, r1⟩ := St_next hN hT h hlt
      obtain ⟨w0, w1, wc, wr⟩ := hw
      have w1' : gi σ1 79 1 = zI 12 := (r1 79 1 (by omega)).trans w1
      have w3' : gi σ1 79 3 = zI (a.length : Nat) := (r1 79 3 (by omega)).trans (by have := wr.1; rw [lawR_len] at this; exact this)
      rw [e1, Option.bind_some, e_full w1' w3' (by omega) (by omega) (by omega), Option.bind_some, if_bI]
      by_cases q2 : 12 ≤ a.length
      · rw [decide_eq_true (by omega), if_pos rfl, if_pos q2]
        refine ⟨σ1, ?_, frQ_R r1, fun a j l' hb => by simp at hb⟩
        rw [s1.1.2.2.1]
        rfl
      · rw [decide_eq_false (by omega), if_neg (c := false = true) (by decide), if_neg q2]
        have hw1 : Lw a σ1 := by
          refine ⟨(r1 79 0 (by omega)).trans w0, w1', ?_, (r1 79 3 (by omega)).trans wr.1, fun k x hk => ?_⟩
          · have := cd_grew wc g1
            rwa [List.append_nil] at this
          · have := wr.2 k x hk
            exact ⟨(r1 80 _ (by omega)).trans this.1, (r1 80 _ (by omega)).trans this.2.1, (r1 80 _ (by omega)).trans this.2.2.1, (r1 80 _ (by omega)).trans this.2.2.2⟩
        obtain ⟨ko, ke⟩ := k_clause (i := i + 1) (l := l) hN hT (by omega) s1 hw1
        cases hp : pClause (tcS T L) (tvS T L) (i + 1) l with
        | error p =>
          obtain ⟨σ2, e2, t2, r2⟩ := ke p hp
          refine ⟨σ2, ?_, frQ_trans (frQ_R r1) r2, fun a j l' hb => by simp [bd] at hb⟩
          rw [e2, Option.bind_some, if_pos rfl]
          show some (gi σ2 77 4, σ2) = _
          rw [t2]
          rfl
        | ok x =>
          obtain ⟨b, j, l'⟩ := x
          obtain ⟨σ2, e2, s2, l2, r2, hij⟩ := ko b j l' hp
          rw [e2, Option.bind_some, if_neg (show ¬ ((1 : Int32), σ2).1 = 0 from n10), show zI c + 1 = zI ((c + 1 : Nat) : Int) by rw [show (1 : Int32) = zI 1 from rfl, zI_add]; rfl]
          obtain ⟨σ', o1, o2, o3⟩ := ih n (c + 1) (a ++ [b]) σ2 j l' (by omega) (by omega) (by omega) (by rw [List.length_append]; omega) (by rw [List.length_append, List.length_cons, List.length_nil]; omega) s2 l2
          exact ⟨σ', o1, frQ_trans (frQ_trans (frQ_R r1) r2) o2, o3⟩
    · rw [if_neg q] at ef
      have ef' : fX6_read_l54 N (n + 1) (zI c) σ = fX6_read_b106 N σ := by rw [ef]; split <;> rfl
      rw [ef', if_neg q]
      refine ⟨σ, ?_, fun _ _ _ => rfl, fun a' j l' hb => ?_⟩
      · unfold fX6_read_b106
        have hk := kd_le T L (tkF T L i)
        have c3 : (gi σ 77 3 = 3) = ¬ (i < tkM T L) := by
          rw [hA.2.1, show (3 : Int32) = zI 3 from rfl, zI_eq (by omega) (by omega) (by omega) (by omega)]
          have k := kd_lt (T := T) (L := L) (p := tkF T L i)
          have k2 := tk_lt (T := T) (L := L) (i := i)
          exact propext ⟨fun z y => by have := k.mpr (k2.mp y); omega, fun z => by
            by_cases y : kd T L (tkF T L i) < 3
            · exact absurd (k2.mpr (k.mp y)) z
            · omega⟩
        simp only [c3]
        show _ = some (zI (if i < tkM T L then (tkF T L i : Int) else -1), σ)
        by_cases y : i < tkM T L
        · rw [if_neg (by omega), if_pos y, hA.2.2.1]
        · rw [if_pos y, if_neg y]; rfl
      · simp only [Except.ok.injEq, Prod.mk.injEq] at hb
        obtain ⟨p1, p2, p3⟩ := hb
        subst p1
        have := h.2.2.2.2.2
        exact ⟨hw, h.2.2.2.2.1, by omega, ha⟩
/-- a law is read -/
theorem k_read {N : Nat} {σ : qMem} (hN : 200000 ≤ N) (hT : okT T L) (ht : ∀ j, j < L → gi σ 86 j = zI (T j)) (w0 : gi σ 79 0 = 4) (w1 : gi σ 79 1 = 12) : lawQ T L σ (pLaw (tcS T L) (tvS T L)) (fX6_read N (zI L) σ) := by
  have hM := tkM_le T L
  have hL := hT.1
  unfold fX6_read
  have m1 : fJ9_min_7cf53 (zI L) 400 = some (zI L) := by
    rw [zl_400, e_min (by omega) (by omega) (by omega) (by omega)]
    congr 2
    all_goals omega
  have m2 : fJ9_max_7cf53 0 (zI L) = some (zI L) := by
    rw [show (0 : Int32) = zI 0 from rfl, e_max (by omega) (by omega) (by omega) (by omega)]
    congr 2
    all_goals omega
  simp only [nmM, m1, m2, Option.bind_some]
  unfold fX5_clear
  simp only [nmM, Option.bind_some]
  generalize hs : si (si (si (si (si (si σ 77 1 86) 77 2 (zI L)) 77 5 0) 77 6 0) (78 + 1) 3 0) 78 5 0 = s0
  have gs : ∀ k j, gi s0 k j = if k = 78 ∧ j = 5 then 0 else if k = 79 ∧ j = 3 then 0 else if k = 77 ∧ j = 6 then 0 else if k = 77 ∧ j = 5 then 0 else if k = 77 ∧ j = 2 then zI L else if k = 77 ∧ j = 1 then 86 else gi σ k j := by
    intro k j; rw [← hs]; simp only [gi_si]
  have tx : txt T L s0 := ⟨by rw [gs, if_neg (by omega), if_neg (by omega), if_neg (by omega), if_neg (by omega), if_neg (by omega), if_pos ⟨rfl, rfl⟩], by rw [gs, if_neg (by omega), if_neg (by omega), if_neg (by omega), if_neg (by omega), if_pos ⟨rfl, rfl⟩], fun j hj => by rw [gs, if_neg (by omega), if_neg (by omega), if_neg (by omega), if_neg (by omega), if_neg (by omega), if_neg (by omega)]; exact ht j hj⟩
  have g5 : gi s0 77 5 = zI (0 : Nat) := by rw [gs, if_neg (by omega), if_neg (by omega), if_neg (by omega), if_pos ⟨rfl, rfl⟩]; rfl
  have hf : ∀ k j, ¬ (k = 77 ∧ 3 ≤ j ∧ j ≤ 5) → gi (mvS T L s0 0) k j = gi s0 k j := fun k j hk => by
    unfold mvS
    rw [gi_si, if_neg (by omega), gi_si, if_neg (by omega), gi_si, if_neg (by omega)]
  rw [e_move hN hT tx (by omega) g5, Option.bind_some]
  have at0 : atK T L 0 (mvS T L s0 0) := by
    refine ⟨txt_fr tx (hf _ _ (by omega)) (hf _ _ (by omega)) (fun j => hf _ _ (by omega)), ?_, ?_, ?_⟩
    · unfold mvS; rw [gi_si, if_neg (by omega), gi_si, if_pos ⟨rfl, rfl⟩]; rfl
    · unfold mvS; rw [gi_si, if_neg (by omega), gi_si, if_neg (by omega), gi_si, if_pos ⟨rfl, rfl⟩]; rfl
    · unfold mvS; rw [gi_si, if_pos ⟨rfl, rfl⟩]; rfl
  generalize mvS T L s0 0 = s1 at *
  have o : ∀ k j, ¬ (77 ≤ k ∧ k ≤ 82 ∧ ¬ (k = 79 ∧ j ≤ 1)) → gi s1 k j = gi σ k j := fun k j hk => by
    rw [hf k j (by omega), gs, if_neg (by omega), if_neg (by omega), if_neg (by omega), if_neg (by omega), if_neg (by omega), if_neg (by omega)]
  have st0 : St T L 0 0 (lawC 0 []).length s1 := ⟨at0, by omega, by rw [hf _ _ (by omega), gs, if_neg (by omega), if_neg (by omega), if_pos ⟨rfl, rfl⟩]; rfl, by omega, by rw [hf _ _ (by omega), gs, if_pos ⟨rfl, rfl⟩]; rfl, by show 0 ≤ 0; omega⟩
  have lw0 : Lw [] s1 := by
    refine ⟨?_, ?_, fun k x hk => by simp [lawC] at hk, ?_, fun k x hk => by simp [lawR] at hk⟩
    · rw [hf _ _ (by omega), gs, if_neg (by omega), if_neg (by omega), if_neg (by omega), if_neg (by omega), if_neg (by omega), if_neg (by omega)]; exact w0
    · rw [hf _ _ (by omega), gs, if_neg (by omega), if_neg (by omega), if_neg (by omega), if_neg (by omega), if_neg (by omega), if_neg (by omega)]; exact w1
    · show gi s1 79 3 = _
      rw [hf _ _ (by omega), gs, if_neg (by omega), if_pos ⟨rfl, rfl⟩]; rfl
  obtain ⟨ko, ke⟩ := k_clause hN hT (by show 0 < 12; omega) st0 lw0
  unfold pLaw
  cases hp : pClause (tcS T L) (tvS T L) 0 0 with
  | error p =>
    obtain ⟨σ2, e2, t2, r2⟩ := ke p hp
    refine ⟨σ2, ?_, frQ_trans o r2, fun a j l' hb => by simp [bd] at hb⟩
    rw [e2, Option.bind_some, if_pos rfl]
    show some (gi σ2 77 4, σ2) = _
    rw [t2]
    rfl
  | ok x =>
    obtain ⟨b, j, l'⟩ := x
    obtain ⟨σ2, e2, s2, l2, r2, hij⟩ := ko b j l' hp
    rw [e2, Option.bind_some, if_neg (show ¬ ((1 : Int32), σ2).1 = 0 from n10)]
    obtain ⟨σ', o1, o2, o3⟩ := k_lawL hN hT 500 N 0 [b] σ2 j l' (by omega) (by omega) (by omega) (by show 1 ≤ 1; omega) (by show 1 ≤ 12; omega) s2 l2
    exact ⟨σ', o1, frQ_trans (frQ_trans o r2) o2, o3⟩
end RC2
