/-! a law's text: what it says. A sum: its steps, and what it gives; a test: its steps from a place, and whether it holds -/
abbrev EE : Type := List (Int × Int) × ((Nat → Int) → Option Int)
abbrev BT : Type := (Nat → List (Int × Int)) × ((Nat → Int) → Option Bool)
def bd {α β : Type} (o : Except Nat (α × Nat × Nat)) (f : α → Nat → Nat → Except Nat (β × Nat × Nat)) : Except Nat (β × Nat × Nat) := match o with
  | .ok x => f x.1 x.2.1 x.2.2
  | .error p => .error p
def opR (o x y : Int) : Int := if o = 2 then x + y else if o = 3 then x - y else if o = 4 then x * y else if y = 0 then 1000000001 else x.tdiv y
def opS (o x y : Int) : Option Int := if -1000000000 ≤ opR o x y ∧ opR o x y ≤ 1000000000 then some (opR o x y) else none
def cmS (o x y : Int) : Bool := if o = 6 then decide (x < y) else if o = 7 then decide (y < x) else decide (x = y)
def numE (v : Int) : EE := ([(0, v)], fun _ => some v)
def wrdE (w : Int) : EE := ([(1, w)], fun e => some (e w.toNat))
def binE (o : Int) (a b : EE) : EE := (a.1 ++ b.1 ++ [(o, 0)], fun e => (a.2 e).bind fun x => (b.2 e).bind fun y => opS o x y)
def cmpB (o : Int) (a b : EE) : BT := (fun _ => a.1 ++ b.1 ++ [(o, 0)], fun e => (a.2 e).bind fun x => (b.2 e).bind fun y => some (cmS o x y))
def notB (a : BT) : BT := (fun s => a.1 s ++ [(9, 0)], fun e => (a.2 e).map (fun x => !x))
def jmpB (o : Int) (a b : BT) : Nat → List (Int × Int) := fun s => a.1 s ++ [(o, ((s + (a.1 s).length + 1 + (b.1 (s + (a.1 s).length + 1)).length : Nat) : Int))] ++ b.1 (s + (a.1 s).length + 1)
def orB (a b : BT) : BT := (jmpB 10 a b, fun e => (a.2 e).bind fun x => if x then some true else b.2 e)
def andB (a b : BT) : BT := (jmpB 11 a b, fun e => (a.2 e).bind fun x => if x then b.2 e else some false)
section PS
variable (tc tv : Nat → Int)
def pPart (inn : Nat → Nat → Except Nat (EE × Nat × Nat)) (i l : Nat) : Except Nat (EE × Nat × Nat) :=
  if tc i = 191 then inn i l
  else if (tc i = 50 ∧ tv i ≤ 1000) ∨ (8 ≤ tc i ∧ tc i ≤ 12) then (if 50 ≤ l then .error i else .ok (if tc i = 50 then numE (tv i) else wrdE (tc i - 8), i + 1, l + 1))
  else .error i
def pTermL (inn : Nat → Nat → Except Nat (EE × Nat × Nat)) : Nat → EE → Nat → Nat → Except Nat (EE × Nat × Nat)
  | 0, _, i, _ => .error i
  | f + 1, a, i, l => if tc i = 142 ∨ tc i = 147 then bd (pPart tc tv inn (i + 1) l) (fun b j l' => pTermL inn f (binE (if tc i = 142 then 4 else 5) a b) j l') else .ok (a, i, l)
def pTerm (inn : Nat → Nat → Except Nat (EE × Nat × Nat)) (i l : Nat) : Except Nat (EE × Nat × Nat) := bd (pPart tc tv inn i l) (fun a j l' => pTermL tc tv inn 500 a j l')
def pSumL (inn : Nat → Nat → Except Nat (EE × Nat × Nat)) : Nat → EE → Nat → Nat → Except Nat (EE × Nat × Nat)
  | 0, _, i, _ => .error i
  | f + 1, a, i, l => if tc i = 143 ∨ tc i = 145 then bd (pTerm tc tv inn (i + 1) l) (fun b j l' => pSumL inn f (binE (if tc i = 143 then 2 else 3) a b) j l') else .ok (a, i, l)
def pSum (inn : Nat → Nat → Except Nat (EE × Nat × Nat)) (i l : Nat) : Except Nat (EE × Nat × Nat) := bd (pTerm tc tv inn i l) (fun a j l' => pSumL tc tv inn 500 a j l')
def pIn : Nat → Nat → Nat → Except Nat (EE × Nat × Nat)
  | 0, i, _ => .error i
  | d + 1, i, l => bd (pSum tc tv (pIn d) (i + 1) l) (fun a j l' => if tc j = 193 then .ok (a, j + 1, l') else .error j)
def pCmp (inn : Nat → Nat → Except Nat (EE × Nat × Nat)) (i l : Nat) : Except Nat (BT × Nat × Nat) :=
  bd (pSum tc tv inn i l) (fun a j l' => if tc j = 160 ∨ tc j = 162 ∨ tc j = 161 then bd (pSum tc tv inn (j + 1) l') (fun b j2 l2 => .ok (cmpB (if tc j = 160 then 6 else if tc j = 162 then 7 else 8) a b, j2, l2)) else .error j)
def pPlainL (inn : Nat → Nat → Except Nat (EE × Nat × Nat)) (inT : Nat → Nat → Except Nat (BT × Nat × Nat)) : Nat → Bool → Nat → Nat → Except Nat (BT × Nat × Nat)
  | 0, _, i, _ => .error i
  | f + 1, g, i, l => if tc i = 7 then pPlainL inn inT f (!g) (i + 1) l else bd (if tc i = 140 then inT i l else pCmp tc tv inn i l) (fun a j l' => .ok (if g then notB a else a, j, l'))
def pPlain (inn : Nat → Nat → Except Nat (EE × Nat × Nat)) (inT : Nat → Nat → Except Nat (BT × Nat × Nat)) (i l : Nat) : Except Nat (BT × Nat × Nat) := pPlainL tc tv inn inT 500 false i l
def pBothL (inn : Nat → Nat → Except Nat (EE × Nat × Nat)) (inT : Nat → Nat → Except Nat (BT × Nat × Nat)) : Nat → BT → Nat → Nat → Except Nat (BT × Nat × Nat)
  | 0, _, i, _ => .error i
  | f + 1, a, i, l => if tc i = 6 then bd (pPlain tc tv inn inT (i + 1) l) (fun b j l' => pBothL inn inT f (andB a b) j l') else .ok (a, i, l)
def pBoth (inn : Nat → Nat → Except Nat (EE × Nat × Nat)) (inT : Nat → Nat → Except Nat (BT × Nat × Nat)) (i l : Nat) : Except Nat (BT × Nat × Nat) := bd (pPlain tc tv inn inT i l) (fun a j l' => pBothL tc tv inn inT 500 a j l')
def pTestL (inn : Nat → Nat → Except Nat (EE × Nat × Nat)) (inT : Nat → Nat → Except Nat (BT × Nat × Nat)) : Nat → BT → Nat → Nat → Except Nat (BT × Nat × Nat)
  | 0, _, i, _ => .error i
  | f + 1, a, i, l => if tc i = 5 then bd (pBoth tc tv inn inT (i + 1) l) (fun b j l' => pTestL inn inT f (orB a b) j l') else .ok (a, i, l)
def pTest (inn : Nat → Nat → Except Nat (EE × Nat × Nat)) (inT : Nat → Nat → Except Nat (BT × Nat × Nat)) (i l : Nat) : Except Nat (BT × Nat × Nat) := bd (pBoth tc tv inn inT i l) (fun a j l' => pTestL tc tv inn inT 500 a j l')
def pInT : Nat → Nat → Nat → Except Nat (BT × Nat × Nat)
  | 0, i, _ => .error i
  | d + 1, i, l => bd (pTest tc tv (pIn tc tv d) (pInT d) (i + 1) l) (fun a j l' => if tc j = 141 then .ok (a, j + 1, l') else .error j)
/-- a clause: its head, its sum, its test -/
abbrev CL : Type := Int × EE × Option BT
def pClause (i l : Nat) : Except Nat (CL × Nat × Nat) :=
  if 1 ≤ tc i ∧ tc i ≤ 3 then bd (pSum tc tv (pIn tc tv 8) (i + 1) l) (fun a j l' => if tc j = 4 then bd (pTest tc tv (pIn tc tv 8) (pInT tc tv 8) (j + 1) l') (fun b j2 l2 => .ok ((tc i - 1, a, some b), j2, l2)) else .ok ((tc i - 1, a, none), j, l'))
  else .error i
/-- the clauses from a token on, k of them read -/
def pLawL : Nat → List CL → Nat → Nat → Except Nat (List CL × Nat × Nat)
  | 0, _, i, _ => .error i
  | f + 1, a, i, l => if tc i = 159 then (if 12 ≤ a.length then .error (i + 1) else bd (pClause tc tv (i + 1) l) (fun b j l' => pLawL f (a ++ [b]) j l')) else .ok (a, i, l)
def pLaw : Except Nat (List CL × Nat × Nat) := bd (pClause tc tv 0 0) (fun a j l' => pLawL tc tv 500 [a] j l')
end PS
theorem bd_ok {α β : Type} {o : Except Nat (α × Nat × Nat)} {f : α → Nat → Nat → Except Nat (β × Nat × Nat)} {y : β × Nat × Nat} (h : bd o f = .ok y) : ∃ a j l, o = .ok (a, j, l) ∧ f a j l = .ok y := by
  cases o with
  | error p => exact absurd h (by unfold bd; simp)
  | ok x => exact ⟨x.1, x.2.1, x.2.2, rfl, h⟩
/-- reading goes on: a step for a token at least -/
def advE (n : Nat) (P : Nat → Nat → Except Nat (EE × Nat × Nat)) : Prop := ∀ i l a j l', P i l = .ok (a, j, l') → i < j ∧ (i ≤ n → j ≤ n) ∧ a.1.length ≤ j - i
def advB (n : Nat) (P : Nat → Nat → Except Nat (BT × Nat × Nat)) : Prop := ∀ i l a j l', P i l = .ok (a, j, l') → i < j ∧ (i ≤ n → j ≤ n) ∧ ∀ s, (a.1 s).length ≤ j - i
section AD
variable {tc tv : Nat → Int} {n : Nat} (h0 : ∀ i, tc i ≠ 0 → i < n)
theorem adv_part (h0 : ∀ i, tc i ≠ 0 → i < n) {inn : Nat → Nat → Except Nat (EE × Nat × Nat)} (hi : advE n inn) : advE n (pPart tc tv inn) := by
  intro i l a j l' h
  unfold pPart at h
  by_cases c : tc i = 191
  · rw [if_pos c] at h; exact hi i l a j l' h
  · rw [if_neg c] at h
    by_cases c2 : (tc i = 50 ∧ tv i ≤ 1000) ∨ (8 ≤ tc i ∧ tc i ≤ 12)
    · rw [if_pos c2] at h
      by_cases c3 : 50 ≤ l
      · rw [if_pos c3] at h; simp at h
      · rw [if_neg c3] at h
        simp only [Except.ok.injEq, Prod.mk.injEq] at h
        obtain ⟨e1, e2, e3⟩ := h
        have := h0 i (by omega)
        refine ⟨by omega, by omega, ?_⟩
        rw [← e1]
        split <;> (simp only [numE, wrdE, List.length_cons, List.length_nil]; omega)
    · rw [if_neg c2] at h; simp at h
theorem adv_termL (h0 : ∀ i, tc i ≠ 0 → i < n) {inn : Nat → Nat → Except Nat (EE × Nat × Nat)} (hi : advE n inn) : ∀ (f : Nat) (a : EE) (i l : Nat) (b : EE) (j l' : Nat), pTermL tc tv inn f a i l = .ok (b, j, l') → i ≤ j ∧ (i ≤ n → j ≤ n) ∧ b.1.length ≤ a.1.length + (j - i) := by
  intro f
  induction f with
  | zero => intro a i l b j l' h; unfold pTermL at h; simp at h
  | succ f ih =>
    intro a i l b j l' h
    unfold pTermL at h
    by_cases c : tc i = 142 ∨ tc i = 147
    · rw [if_pos c] at h
      obtain ⟨b1, j1, l1, e1, e2⟩ := bd_ok h
      have p1 := adv_part h0 hi _ _ _ _ _ e1
      have p2 := ih _ _ _ _ _ _ e2
      have := h0 i (by omega)
      simp only [binE, List.length_append, List.length_cons, List.length_nil] at p2
      omega
    · rw [if_neg c] at h
      simp only [Except.ok.injEq, Prod.mk.injEq] at h
      obtain ⟨e1, e2, e3⟩ := h
      rw [← e1]
      omega
theorem adv_term (h0 : ∀ i, tc i ≠ 0 → i < n) {inn : Nat → Nat → Except Nat (EE × Nat × Nat)} (hi : advE n inn) : advE n (pTerm tc tv inn) := by
  intro i l a j l' h
  obtain ⟨b1, j1, l1, e1, e2⟩ := bd_ok h
  have p1 := adv_part h0 hi _ _ _ _ _ e1
  have p2 := adv_termL h0 hi _ _ _ _ _ _ _ e2
  omega
theorem adv_sumL (h0 : ∀ i, tc i ≠ 0 → i < n) {inn : Nat → Nat → Except Nat (EE × Nat × Nat)} (hi : advE n inn) : ∀ (f : Nat) (a : EE) (i l : Nat) (b : EE) (j l' : Nat), pSumL tc tv inn f a i l = .ok (b, j, l') → i ≤ j ∧ (i ≤ n → j ≤ n) ∧ b.1.length ≤ a.1.length + (j - i) := by
  intro f
  induction f with
  | zero => intro a i l b j l' h; unfold pSumL at h; simp at h
  | succ f ih =>
    intro a i l b j l' h
    unfold pSumL at h
    by_cases c : tc i = 143 ∨ tc i = 145
    · rw [if_pos c] at h
      obtain ⟨b1, j1, l1, e1, e2⟩ := bd_ok h
      have p1 := adv_term h0 hi _ _ _ _ _ e1
      have p2 := ih _ _ _ _ _ _ e2
      have := h0 i (by omega)
      simp only [binE, List.length_append, List.length_cons, List.length_nil] at p2
      omega
    · rw [if_neg c] at h
      simp only [Except.ok.injEq, Prod.mk.injEq] at h
      obtain ⟨e1, e2, e3⟩ := h
      rw [← e1]
      omega
theorem adv_sum (h0 : ∀ i, tc i ≠ 0 → i < n) {inn : Nat → Nat → Except Nat (EE × Nat × Nat)} (hi : advE n inn) : advE n (pSum tc tv inn) := by
  intro i l a j l' h
  obtain ⟨b1, j1, l1, e1, e2⟩ := bd_ok h
  have p1 := adv_term h0 hi _ _ _ _ _ e1
  have p2 := adv_sumL h0 hi _ _ _ _ _ _ _ e2
  omega
theorem adv_in (h0 : ∀ i, tc i ≠ 0 → i < n) : ∀ d : Nat, advE n (pIn tc tv d) := by
  intro d
  induction d with
  | zero => intro i l a j l' h; unfold pIn at h; simp at h
  | succ d ih =>
    intro i l a j l' h
    unfold pIn at h
    obtain ⟨b1, j1, l1, e1, e2⟩ := bd_ok h
    have p1 := adv_sum h0 ih _ _ _ _ _ e1
    by_cases c : tc j1 = 193
    · rw [if_pos c] at e2
      simp only [Except.ok.injEq, Prod.mk.injEq] at e2
      obtain ⟨q1, q2, q3⟩ := e2
      have := h0 j1 (by omega)
      rw [← q1]
      omega
    · rw [if_neg c] at e2; simp at e2
theorem adv_cmp (h0 : ∀ i, tc i ≠ 0 → i < n) {inn : Nat → Nat → Except Nat (EE × Nat × Nat)} (hi : advE n inn) : advB n (pCmp tc tv inn) := by
  intro i l a j l' h
  unfold pCmp at h
  obtain ⟨b1, j1, l1, e1, e2⟩ := bd_ok h
  have p1 := adv_sum h0 hi _ _ _ _ _ e1
  by_cases c : tc j1 = 160 ∨ tc j1 = 162 ∨ tc j1 = 161
  · rw [if_pos c] at e2
    obtain ⟨b2, j2, l2, e3, e4⟩ := bd_ok e2
    have p2 := adv_sum h0 hi _ _ _ _ _ e3
    simp only [Except.ok.injEq, Prod.mk.injEq] at e4
    obtain ⟨q1, q2, q3⟩ := e4
    have := h0 j1 (by omega)
    refine ⟨by omega, by omega, fun s => ?_⟩
    rw [← q1]
    simp only [cmpB, List.length_append, List.length_cons, List.length_nil]
    omega
  · rw [if_neg c] at e2; simp at e2
theorem adv_plainL (h0 : ∀ i, tc i ≠ 0 → i < n) {inn : Nat → Nat → Except Nat (EE × Nat × Nat)} {inT : Nat → Nat → Except Nat (BT × Nat × Nat)} (hi : advE n inn) (ht : advB n inT) : ∀ (f : Nat) (g : Bool) (i l : Nat) (b : BT) (j l' : Nat), pPlainL tc tv inn inT f g i l = .ok (b, j, l') → i < j ∧ (i ≤ n → j ≤ n) ∧ ∀ s, (b.1 s).length ≤ j - i + (if g then 1 else 0) := by
  intro f
  induction f with
  | zero => intro g i l b j l' h; unfold pPlainL at h; simp at h
  | succ f ih =>
    intro g i l b j l' h
    unfold pPlainL at h
    by_cases c : tc i = 7
    · rw [if_pos c] at h
      have p2 := ih _ _ _ _ _ _ h
      have := h0 i (by omega)
      refine ⟨by omega, by omega, fun s => ?_⟩
      have := p2.2.2 s
      cases g <;> simp at this ⊢ <;> omega
    · rw [if_neg c] at h
      obtain ⟨b1, j1, l1, e1, e2⟩ := bd_ok h
      have p1 : i < j1 ∧ (i ≤ n → j1 ≤ n) ∧ ∀ s, (b1.1 s).length ≤ j1 - i := by
        by_cases c2 : tc i = 140
        · rw [if_pos c2] at e1; exact ht _ _ _ _ _ e1
        · rw [if_neg c2] at e1; exact adv_cmp h0 hi _ _ _ _ _ e1
      simp only [Except.ok.injEq, Prod.mk.injEq] at e2
      obtain ⟨q1, q2, q3⟩ := e2
      refine ⟨by omega, by omega, fun s => ?_⟩
      rw [← q1]
      have := p1.2.2 s
      cases g
      · simp only [Bool.false_eq_true, if_false]; omega
      · simp only [if_true, notB, List.length_append, List.length_cons, List.length_nil]; omega
theorem adv_plain (h0 : ∀ i, tc i ≠ 0 → i < n) {inn : Nat → Nat → Except Nat (EE × Nat × Nat)} {inT : Nat → Nat → Except Nat (BT × Nat × Nat)} (hi : advE n inn) (ht : advB n inT) : advB n (pPlain tc tv inn inT) := by
  intro i l a j l' h
  have p := adv_plainL h0 hi ht _ _ _ _ _ _ _ h
  refine ⟨p.1, p.2.1, fun s => ?_⟩
  have := p.2.2 s
  simp only [Bool.false_eq_true, if_false] at this
  omega
theorem jmp_len (o : Int) (a b : BT) (s : Nat) : (jmpB o a b s).length = (a.1 s).length + 1 + (b.1 (s + (a.1 s).length + 1)).length := by
  unfold jmpB
  simp only [List.length_append, List.length_cons, List.length_nil]
theorem adv_bothL (h0 : ∀ i, tc i ≠ 0 → i < n) {inn : Nat → Nat → Except Nat (EE × Nat × Nat)} {inT : Nat → Nat → Except Nat (BT × Nat × Nat)} (hi : advE n inn) (ht : advB n inT) : ∀ (f : Nat) (a : BT) (i l : Nat) (b : BT) (j l' : Nat), pBothL tc tv inn inT f a i l = .ok (b, j, l') → i ≤ j ∧ (i ≤ n → j ≤ n) ∧ ∀ s, (b.1 s).length ≤ (a.1 s).length + (j - i) := by
  intro f
  induction f with
  | zero => intro g i l b j l' h; unfold pBothL at h; simp at h
  | succ f ih =>
    intro a i l b j l' h
    unfold pBothL at h
    by_cases c : tc i = 6
    · rw [if_pos c] at h
      obtain ⟨b1, j1, l1, e1, e2⟩ := bd_ok h
      have p1 := adv_plain h0 hi ht _ _ _ _ _ e1
      have p2 := ih _ _ _ _ _ _ e2
      have := h0 i (by omega)
      refine ⟨by omega, by omega, fun s => ?_⟩
      have q := p2.2.2 s
      have e : (andB a b1).1 s = jmpB 11 a b1 s := rfl
      rw [e, jmp_len] at q
      have := p1.2.2 (s + (a.1 s).length + 1)
      omega
    · rw [if_neg c] at h
      simp only [Except.ok.injEq, Prod.mk.injEq] at h
      obtain ⟨e1, e2, e3⟩ := h
      rw [← e1]
      exact ⟨by omega, by omega, fun s => by omega⟩
theorem adv_both (h0 : ∀ i, tc i ≠ 0 → i < n) {inn : Nat → Nat → Except Nat (EE × Nat × Nat)} {inT : Nat → Nat → Except Nat (BT × Nat × Nat)} (hi : advE n inn) (ht : advB n inT) : advB n (pBoth tc tv inn inT) := by
  intro i l a j l' h
  obtain ⟨b1, j1, l1, e1, e2⟩ := bd_ok h
  have p1 := adv_plain h0 hi ht _ _ _ _ _ e1
  have p2 := adv_bothL h0 hi ht _ _ _ _ _ _ _ e2
  refine ⟨by omega, by omega, fun s => ?_⟩
  have := p1.2.2 s
  have := p2.2.2 s
  omega
theorem adv_testL (h0 : ∀ i, tc i ≠ 0 → i < n) {inn : Nat → Nat → Except Nat (EE × Nat × Nat)} {inT : Nat → Nat → Except Nat (BT × Nat × Nat)} (hi : advE n inn) (ht : advB n inT) : ∀ (f : Nat) (a : BT) (i l : Nat) (b : BT) (j l' : Nat), pTestL tc tv inn inT f a i l = .ok (b, j, l') → i ≤ j ∧ (i ≤ n → j ≤ n) ∧ ∀ s, (b.1 s).length ≤ (a.1 s).length + (j - i) := by
  intro f
  induction f with
  | zero => intro g i l b j l' h; unfold pTestL at h; simp at h
  | succ f ih =>
    intro a i l b j l' h
    unfold pTestL at h
    by_cases c : tc i = 5
    · rw [if_pos c] at h
      obtain ⟨b1, j1, l1, e1, e2⟩ := bd_ok h
      have p1 := adv_both h0 hi ht _ _ _ _ _ e1
      have p2 := ih _ _ _ _ _ _ e2
      have := h0 i (by omega)
      refine ⟨by omega, by omega, fun s => ?_⟩
      have q := p2.2.2 s
      have e : (orB a b1).1 s = jmpB 10 a b1 s := rfl
      rw [e, jmp_len] at q
      have := p1.2.2 (s + (a.1 s).length + 1)
      omega
    · rw [if_neg c] at h
      simp only [Except.ok.injEq, Prod.mk.injEq] at h
      obtain ⟨e1, e2, e3⟩ := h
      rw [← e1]
      exact ⟨by omega, by omega, fun s => by omega⟩
theorem adv_test (h0 : ∀ i, tc i ≠ 0 → i < n) {inn : Nat → Nat → Except Nat (EE × Nat × Nat)} {inT : Nat → Nat → Except Nat (BT × Nat × Nat)} (hi : advE n inn) (ht : advB n inT) : advB n (pTest tc tv inn inT) := by
  intro i l a j l' h
  obtain ⟨b1, j1, l1, e1, e2⟩ := bd_ok h
  have p1 := adv_both h0 hi ht _ _ _ _ _ e1
  have p2 := adv_testL h0 hi ht _ _ _ _ _ _ _ e2
  refine ⟨by omega, by omega, fun s => ?_⟩
  have := p1.2.2 s
  have := p2.2.2 s
  omega
theorem adv_inT (h0 : ∀ i, tc i ≠ 0 → i < n) : ∀ d : Nat, advB n (pInT tc tv d) := by
  intro d
  induction d with
  | zero => intro i l a j l' h; unfold pInT at h; simp at h
  | succ d ih =>
    intro i l a j l' h
    unfold pInT at h
    obtain ⟨b1, j1, l1, e1, e2⟩ := bd_ok h
    have p1 := adv_test h0 (adv_in h0 d) ih _ _ _ _ _ e1
    by_cases c : tc j1 = 141
    · rw [if_pos c] at e2
      simp only [Except.ok.injEq, Prod.mk.injEq] at e2
      obtain ⟨q1, q2, q3⟩ := e2
      have := h0 j1 (by omega)
      rw [← q1]
      refine ⟨by omega, by omega, fun s => ?_⟩
      have := p1.2.2 s
      omega
    · rw [if_neg c] at e2; simp at e2
end AD
