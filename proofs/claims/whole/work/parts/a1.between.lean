/-! no clause holds a sign between clauses -/
section NS
variable {tc tv : Nat → Int}
def nsP {α : Type} (tc : Nat → Int) (P : Nat → Nat → Except Nat (α × Nat × Nat)) : Prop := ∀ i l a j l', P i l = .ok (a, j, l') → ∀ q, i ≤ q → q < j → tc q ≠ 159
def nsI {α : Type} (tc : Nat → Int) (c : Int) (P : Nat → Nat → Except Nat (α × Nat × Nat)) : Prop := ∀ i l a j l', tc i = c → P i l = .ok (a, j, l') → ∀ q, i ≤ q → q < j → tc q ≠ 159
theorem ns_part {inn : Nat → Nat → Except Nat (EE × Nat × Nat)} (hi : nsI tc 191 inn) : nsP tc (pPart tc tv inn) := by
  intro i l a j l' h q q1 q2
  unfold pPart at h
  by_cases c : tc i = 191
  · rw [if_pos c] at h; exact hi i l a j l' c h q q1 q2
  · rw [if_neg c] at h
    by_cases c2 : (tc i = 50 ∧ tv i ≤ 1000) ∨ (8 ≤ tc i ∧ tc i ≤ 12)
    · rw [if_pos c2] at h
      by_cases c3 : 50 ≤ l
      · rw [if_pos c3] at h; simp at h
      · rw [if_neg c3] at h
        simp only [Except.ok.injEq, Prod.mk.injEq] at h
        have : q = i := by omega
        subst this
        omega
    · rw [if_neg c2] at h; simp at h
theorem ns_termL {inn : Nat → Nat → Except Nat (EE × Nat × Nat)} (hi : nsI tc 191 inn) : ∀ (f : Nat) (a : EE) (i l : Nat) (b : EE) (j l' : Nat), pTermL tc tv inn f a i l = .ok (b, j, l') → ∀ q, i ≤ q → q < j → tc q ≠ 159 := by
  intro f
  induction f with
  | zero => intro a i l b j l' h; unfold pTermL at h; simp at h
  | succ f ih =>
    intro a i l b j l' h q q1 q2
    unfold pTermL at h
    by_cases c : tc i = 142 ∨ tc i = 147
    · rw [if_pos c] at h
      obtain ⟨b1, j1, l1, e1, e2⟩ := bd_ok h
      have p1 := ns_part (tv := tv) hi _ _ _ _ _ e1
      have p2 := ih _ _ _ _ _ _ e2
      by_cases z : q = i
      · subst z; omega
      · by_cases y : q < j1
        · exact p1 q (by omega) y
        · exact p2 q (by omega) q2
    · rw [if_neg c] at h
      simp only [Except.ok.injEq, Prod.mk.injEq] at h
      omega
theorem ns_term {inn : Nat → Nat → Except Nat (EE × Nat × Nat)} (hi : nsI tc 191 inn) : nsP tc (pTerm tc tv inn) := by
  intro i l a j l' h q q1 q2
  obtain ⟨b1, j1, l1, e1, e2⟩ := bd_ok h
  have p1 := ns_part (tv := tv) hi _ _ _ _ _ e1
  have p2 := ns_termL hi _ _ _ _ _ _ _ e2
  by_cases y : q < j1
  · exact p1 q (by omega) y
  · exact p2 q (by omega) q2
theorem ns_sumL {inn : Nat → Nat → Except Nat (EE × Nat × Nat)} (hi : nsI tc 191 inn) : ∀ (f : Nat) (a : EE) (i l : Nat) (b : EE) (j l' : Nat), pSumL tc tv inn f a i l = .ok (b, j, l') → ∀ q, i ≤ q → q < j → tc q ≠ 159 := by
  intro f
  induction f with
  | zero => intro a i l b j l' h; unfold pSumL at h; simp at h
  | succ f ih =>
    intro a i l b j l' h q q1 q2
    unfold pSumL at h
    by_cases c : tc i = 143 ∨ tc i = 145
    · rw [if_pos c] at h
      obtain ⟨b1, j1, l1, e1, e2⟩ := bd_ok h
      have p1 := ns_term (tv := tv) hi _ _ _ _ _ e1
      have p2 := ih _ _ _ _ _ _ e2
      by_cases z : q = i
      · subst z; omega
      · by_cases y : q < j1
        · exact p1 q (by omega) y
        · exact p2 q (by omega) q2
    · rw [if_neg c] at h
      simp only [Except.ok.injEq, Prod.mk.injEq] at h
      omega
theorem ns_sum {inn : Nat → Nat → Except Nat (EE × Nat × Nat)} (hi : nsI tc 191 inn) : nsP tc (pSum tc tv inn) := by
  intro i l a j l' h q q1 q2
  obtain ⟨b1, j1, l1, e1, e2⟩ := bd_ok h
  have p1 := ns_term (tv := tv) hi _ _ _ _ _ e1
  have p2 := ns_sumL hi _ _ _ _ _ _ _ e2
  by_cases y : q < j1
  · exact p1 q (by omega) y
  · exact p2 q (by omega) q2
theorem ns_in : ∀ d : Nat, nsI tc 191 (pIn tc tv d) := by
  intro d
  induction d with
  | zero => intro i l a j l' _ h; unfold pIn at h; simp at h
  | succ d ih =>
    intro i l a j l' hc h q q1 q2
    unfold pIn at h
    obtain ⟨b1, j1, l1, e1, e2⟩ := bd_ok h
    have p1 := ns_sum ih _ _ _ _ _ e1
    by_cases c : tc j1 = 193
    · rw [if_pos c] at e2
      simp only [Except.ok.injEq, Prod.mk.injEq] at e2
      by_cases z : q = i
      · subst z; omega
      · by_cases y : q < j1
        · exact p1 q (by omega) y
        · have : q = j1 := by omega
          subst this
          omega
    · rw [if_neg c] at e2; simp at e2
theorem ns_cmp {inn : Nat → Nat → Except Nat (EE × Nat × Nat)} (hi : nsI tc 191 inn) : nsP tc (pCmp tc tv inn) := by
  intro i l a j l' h q q1 q2
  unfold pCmp at h
  obtain ⟨b1, j1, l1, e1, e2⟩ := bd_ok h
  have p1 := ns_sum hi _ _ _ _ _ e1
  by_cases c : tc j1 = 160 ∨ tc j1 = 162 ∨ tc j1 = 161
  · rw [if_pos c] at e2
    obtain ⟨b2, j2, l2, e3, e4⟩ := bd_ok e2
    have p2 := ns_sum hi _ _ _ _ _ e3
    simp only [Except.ok.injEq, Prod.mk.injEq] at e4
    by_cases y : q < j1
    · exact p1 q (by omega) y
    · by_cases z : q = j1
      · subst z; omega
      · exact p2 q (by omega) (by omega)
  · rw [if_neg c] at e2; simp at e2
theorem ns_plainL {inn : Nat → Nat → Except Nat (EE × Nat × Nat)} (hi : nsI tc 191 inn) {inT : Nat → Nat → Except Nat (BT × Nat × Nat)} (ht : nsI tc 140 inT) : ∀ (f : Nat) (g : Bool) (i l : Nat) (b : BT) (j l' : Nat), pPlainL tc tv inn inT f g i l = .ok (b, j, l') → ∀ q, i ≤ q → q < j → tc q ≠ 159 := by
  intro f
  induction f with
  | zero => intro g i l b j l' h; unfold pPlainL at h; simp at h
  | succ f ih =>
    intro g i l b j l' h q q1 q2
    unfold pPlainL at h
    by_cases c : tc i = 7
    · rw [if_pos c] at h
      by_cases z : q = i
      · subst z; omega
      · exact ih _ _ _ _ _ _ h q (by omega) q2
    · rw [if_neg c] at h
      obtain ⟨b1, j1, l1, e1, e2⟩ := bd_ok h
      simp only [Except.ok.injEq, Prod.mk.injEq] at e2
      by_cases c2 : tc i = 140
      · rw [if_pos c2] at e1; exact ht _ _ _ _ _ c2 e1 q q1 (by omega)
      · rw [if_neg c2] at e1; exact ns_cmp hi _ _ _ _ _ e1 q q1 (by omega)
theorem ns_plain {inn : Nat → Nat → Except Nat (EE × Nat × Nat)} (hi : nsI tc 191 inn) {inT : Nat → Nat → Except Nat (BT × Nat × Nat)} (ht : nsI tc 140 inT) : nsP tc (pPlain tc tv inn inT) := fun i l a j l' h => ns_plainL hi ht _ _ _ _ _ _ _ h
theorem ns_bothL {inn : Nat → Nat → Except Nat (EE × Nat × Nat)} (hi : nsI tc 191 inn) {inT : Nat → Nat → Except Nat (BT × Nat × Nat)} (ht : nsI tc 140 inT) : ∀ (f : Nat) (a : BT) (i l : Nat) (b : BT) (j l' : Nat), pBothL tc tv inn inT f a i l = .ok (b, j, l') → ∀ q, i ≤ q → q < j → tc q ≠ 159 := by
  intro f
  induction f with
  | zero => intro a i l b j l' h; unfold pBothL at h; simp at h
  | succ f ih =>
    intro a i l b j l' h q q1 q2
    unfold pBothL at h
    by_cases c : tc i = 6
    · rw [if_pos c] at h
      obtain ⟨b1, j1, l1, e1, e2⟩ := bd_ok h
      have p1 := ns_plain (tv := tv) hi ht _ _ _ _ _ e1
      have p2 := ih _ _ _ _ _ _ e2
      by_cases z : q = i
      · subst z; omega
      · by_cases y : q < j1
        · exact p1 q (by omega) y
        · exact p2 q (by omega) q2
    · rw [if_neg c] at h
      simp only [Except.ok.injEq, Prod.mk.injEq] at h
      omega
theorem ns_both {inn : Nat → Nat → Except Nat (EE × Nat × Nat)} (hi : nsI tc 191 inn) {inT : Nat → Nat → Except Nat (BT × Nat × Nat)} (ht : nsI tc 140 inT) : nsP tc (pBoth tc tv inn inT) := by
  intro i l a j l' h q q1 q2
  obtain ⟨b1, j1, l1, e1, e2⟩ := bd_ok h
  have p1 := ns_plain (tv := tv) hi ht _ _ _ _ _ e1
  have p2 := ns_bothL hi ht _ _ _ _ _ _ _ e2
  by_cases y : q < j1
  · exact p1 q (by omega) y
  · exact p2 q (by omega) q2
theorem ns_testL {inn : Nat → Nat → Except Nat (EE × Nat × Nat)} (hi : nsI tc 191 inn) {inT : Nat → Nat → Except Nat (BT × Nat × Nat)} (ht : nsI tc 140 inT) : ∀ (f : Nat) (a : BT) (i l : Nat) (b : BT) (j l' : Nat), pTestL tc tv inn inT f a i l = .ok (b, j, l') → ∀ q, i ≤ q → q < j → tc q ≠ 159 := by
  intro f
  induction f with
  | zero => intro a i l b j l' h; unfold pTestL at h; simp at h
  | succ f ih =>
    intro a i l b j l' h q q1 q2
    unfold pTestL at h
    by_cases c : tc i = 5
    · rw [if_pos c] at h
      obtain ⟨b1, j1, l1, e1, e2⟩ := bd_ok h
      have p1 := ns_both (tv := tv) hi ht _ _ _ _ _ e1
      have p2 := ih _ _ _ _ _ _ e2
      by_cases z : q = i
      · subst z; omega
      · by_cases y : q < j1
        · exact p1 q (by omega) y
        · exact p2 q (by omega) q2
    · rw [if_neg c] at h
      simp only [Except.ok.injEq, Prod.mk.injEq] at h
      omega
theorem ns_test {inn : Nat → Nat → Except Nat (EE × Nat × Nat)} (hi : nsI tc 191 inn) {inT : Nat → Nat → Except Nat (BT × Nat × Nat)} (ht : nsI tc 140 inT) : nsP tc (pTest tc tv inn inT) := by
  intro i l a j l' h q q1 q2
  obtain ⟨b1, j1, l1, e1, e2⟩ := bd_ok h
  have p1 := ns_both (tv := tv) hi ht _ _ _ _ _ e1
  have p2 := ns_testL hi ht _ _ _ _ _ _ _ e2
  by_cases y : q < j1
  · exact p1 q (by omega) y
  · exact p2 q (by omega) q2
theorem ns_inT : ∀ d : Nat, nsI tc 140 (pInT tc tv d) := by
  intro d
  induction d with
  | zero => intro i l a j l' _ h; unfold pInT at h; simp at h
  | succ d ih =>
    intro i l a j l' hc h q q1 q2
    unfold pInT at h
    obtain ⟨b1, j1, l1, e1, e2⟩ := bd_ok h
    have p1 := ns_test (ns_in d) ih _ _ _ _ _ e1
    by_cases c : tc j1 = 141
    · rw [if_pos c] at e2
      simp only [Except.ok.injEq, Prod.mk.injEq] at e2
      by_cases z : q = i
      · subst z; omega
      · by_cases y : q < j1
        · exact p1 q (by omega) y
        · have : q = j1 := by omega
          subst this
          omega
    · rw [if_neg c] at e2; simp at e2
theorem ns_clause : nsP tc (pClause tc tv) := by
  intro i l a j l' h q q1 q2
  unfold pClause at h
  by_cases c0 : 1 ≤ tc i ∧ tc i ≤ 3
  · rw [if_pos c0] at h
    obtain ⟨b1, j1, l1, e1, e2⟩ := bd_ok h
    have p1 := ns_sum (ns_in 8) _ _ _ _ _ e1
    by_cases z : q = i
    · subst z; omega
    · by_cases c : tc j1 = 4
      · rw [if_pos c] at e2
        obtain ⟨b2, j2, l2, e3, e4⟩ := bd_ok e2
        have p2 := ns_test (ns_in 8) (ns_inT 8) _ _ _ _ _ e3
        simp only [Except.ok.injEq, Prod.mk.injEq] at e4
        by_cases y : q < j1
        · exact p1 q (by omega) y
        · by_cases x : q = j1
          · subst x; omega
          · exact p2 q (by omega) (by omega)
      · rw [if_neg c] at e2
        simp only [Except.ok.injEq, Prod.mk.injEq] at e2
        exact p1 q (by omega) (by omega)
  · rw [if_neg c0] at h; simp at h
/-- clauses, one behind another, from a token to a token -/
def rdC (tc tv : Nat → Int) : List CL → Nat → Nat → Prop
  | [], _, _ => False
  | [c], i, j => ∃ l l', pClause tc tv i l = .ok (c, j, l')
  | c :: d :: cs, i, j => ∃ l k l', pClause tc tv i l = .ok (c, k, l') ∧ tc k = 159 ∧ rdC tc tv (d :: cs) (k + 1) j
theorem rdC_add {b : CL} {l l' j k : Nat} (hj : tc j = 159) (hb : pClause tc tv (j + 1) l = .ok (b, k, l')) : ∀ (a : List CL) (i : Nat), rdC tc tv a i j → rdC tc tv (a ++ [b]) i k
  | [], i, h => h.elim
  | [c], i, h => by
    obtain ⟨l1, l2, e⟩ := h
    exact ⟨l1, j, l2, e, hj, l, l', hb⟩
  | c :: d :: cs, i, h => by
    obtain ⟨l1, k1, l2, e, e59, r⟩ := h
    exact ⟨l1, k1, l2, e, e59, rdC_add hj hb (d :: cs) (k1 + 1) r⟩
theorem law_rd : ∀ (f : Nat) (a : List CL) (i l : Nat) (b : List CL) (j l' : Nat), pLawL tc tv f a i l = .ok (b, j, l') → rdC tc tv a 0 i → a.length ≤ 12 → rdC tc tv b 0 j ∧ b.length ≤ 12 := by
  intro f
  induction f with
  | zero => intro a i l b j l' h; unfold pLawL at h; simp at h
  | succ f ih =>
    intro a i l b j l' h hr ha
    unfold pLawL at h
    by_cases c : tc i = 159
    · rw [if_pos c] at h
      by_cases c2 : 12 ≤ a.length
      · rw [if_pos c2] at h; simp at h
      · rw [if_neg c2] at h
        obtain ⟨b1, j1, l1, e1, e2⟩ := bd_ok h
        exact ih _ _ _ _ _ _ e2 (rdC_add c e1 a 0 hr) (by rw [List.length_append, List.length_cons, List.length_nil]; omega)
    · rw [if_neg c] at h
      simp only [Except.ok.injEq, Prod.mk.injEq] at h
      obtain ⟨e1, e2, e3⟩ := h
      subst e1 e2
      exact ⟨hr, ha⟩
theorem law_rd0 {b : List CL} {j l' : Nat} (h : pLaw tc tv = .ok (b, j, l')) : rdC tc tv b 0 j ∧ b.length ≤ 12 := by
  unfold pLaw at h
  obtain ⟨b1, j1, l1, e1, e2⟩ := bd_ok h
  exact law_rd _ _ _ _ _ _ _ e2 ⟨_, _, e1⟩ (by show 1 ≤ 12; omega)
/-- so many signs between -/
def ctS (tc : Nat → Int) : Nat → Nat
  | 0 => 0
  | n + 1 => ctS tc n + (if tc n = 159 then 1 else 0)
theorem ctS_none {tc : Nat → Int} {i : Nat} : ∀ d : Nat, (∀ q, i ≤ q → q < i + d → tc q ≠ 159) → ctS tc (i + d) = ctS tc i
  | 0, _ => rfl
  | d + 1, h => by
    show ctS tc (i + d) + (if tc (i + d) = 159 then 1 else 0) = _
    rw [if_neg (h (i + d) (by omega) (by omega)), ctS_none d (fun q h1 h2 => h q h1 (by omega)), Nat.add_zero]
theorem pClause_lt {n i l : Nat} {c : CL} {j l' : Nat} (h0 : ∀ x, tc x ≠ 0 → x < n) (h : pClause tc tv i l = .ok (c, j, l')) : i < j := by
  unfold pClause at h
  by_cases c0 : 1 ≤ tc i ∧ tc i ≤ 3
  · rw [if_pos c0] at h
    obtain ⟨b1, j1, l1, e1, e2⟩ := bd_ok h
    have s := (adv_sum h0 (adv_in h0 8) _ _ _ _ _ e1).1
    by_cases c : tc j1 = 4
    · rw [if_pos c] at e2
      obtain ⟨b2, j2, l2, e3, e4⟩ := bd_ok e2
      have t := (adv_test h0 (adv_in h0 8) (adv_inT h0 8) _ _ _ _ _ e3).1
      simp only [Except.ok.injEq, Prod.mk.injEq] at e4
      omega
    · rw [if_neg c] at e2
      simp only [Except.ok.injEq, Prod.mk.injEq] at e2
      omega
  · rw [if_neg c0] at h; simp at h
theorem rdC_ct {n : Nat} (h0 : ∀ x, tc x ≠ 0 → x < n) : ∀ (a : List CL) (i j : Nat), rdC tc tv a i j → ctS tc j + 1 = ctS tc i + a.length ∧ i < j
  | [], i, j, h => h.elim
  | [c], i, j, h => by
    obtain ⟨l, l', e⟩ := h
    have lt := pClause_lt h0 e
    have := ctS_none (tc := tc) (i := i) (j - i) (fun q h1 h2 => ns_clause _ _ _ _ _ e q h1 (by omega))
    rw [show i + (j - i) = j by omega] at this
    rw [this]
    exact ⟨rfl, lt⟩
  | c :: d :: cs, i, j, h => by
    obtain ⟨l, k, l', e, e59, r⟩ := h
    have lt := pClause_lt h0 e
    have := ctS_none (tc := tc) (i := i) (k - i) (fun q h1 h2 => ns_clause _ _ _ _ _ e q h1 (by omega))
    rw [show i + (k - i) = k by omega] at this
    have ih := rdC_ct h0 (d :: cs) (k + 1) j r
    have e1 : ctS tc (k + 1) = ctS tc k + 1 := by show ctS tc k + (if tc k = 159 then 1 else 0) = _; rw [if_pos e59]
    rw [e1, this] at ih
    simp only [List.length_cons] at ih ⊢
    omega
end NS
