/-! the class's steps: of what is read -/
def okV (e : Nat → Int) : Prop := ∀ w, w < 5 → smE (e w)
def GE (N K : Nat) (a : EE) (m : Nat) : Prop := ∀ e, okV e → Wk N K e (fun _ => a.1) (a.2 e) m ∧ ∀ v, a.2 e = some v → smE v
def GB (N K : Nat) (b : BT) (m : Nat) : Prop := ∀ e, okV e → Wk N K e b.1 ((b.2 e).map bV) m
theorem GE_mono {N K : Nat} {a : EE} {m m' : Nat} (h : GE N K a m) (hm : m ≤ m') : GE N K a m' := fun e he => ⟨Wk_mono (h e he).1 hm, (h e he).2⟩
theorem GB_mono {N K : Nat} {a : BT} {m m' : Nat} (h : GB N K a m) (hm : m ≤ m') : GB N K a m' := fun e he => Wk_mono (h e he) hm
theorem g_num {N K : Nat} {v : Int} (h1 : 0 ≤ v) (h2 : v ≤ 1000) : GE N K (numE v) 1 := fun e he => ⟨w_num (by omega) (by omega), fun x hx => by
  have : v = x := by simpa [numE] using hx
  subst this
  unfold smE
  omega⟩
theorem g_wrd {N K : Nat} {w : Int} (h1 : 0 ≤ w) (h2 : w ≤ 4) : GE N K (wrdE w) 1 := fun e he => ⟨w_wrd h1 h2, fun x hx => by
  have : e w.toNat = x := by simpa [wrdE] using hx
  subst this
  exact he w.toNat (by omega)⟩
theorem g_bin {N K : Nat} {a b : EE} {o : Int} {m m' M : Nat} (o1 : 2 ≤ o) (o2 : o ≤ 5) (ha : GE N K a m) (hb : GE N K b m') (m1 : m ≤ M) (m2 : m' + 1 ≤ M) (m3 : 2 ≤ M) : GE N K (binE o a b) M := by
  intro e he
  have w := w_op (o := o) o1 (by omega) (ha e he).1 (hb e he).1 m1 m2 m3 (ha e he).2 (hb e he).2
  have ej : ∀ x y, jnR o x y = opR o x y := fun x y => by unfold jnR; rw [if_pos o2]
  simp only [ej] at w
  refine ⟨w, fun v hv => ?_⟩
  have hv' : ((a.2 e).bind fun x => (b.2 e).bind fun y => opS o x y) = some v := hv
  cases hfa : a.2 e with
  | none => rw [hfa] at hv'; simp at hv'
  | some x =>
    cases hfb : b.2 e with
    | none => rw [hfa, hfb] at hv'; simp at hv'
    | some y =>
      rw [hfa, hfb] at hv'
      simp only [Option.bind_some] at hv'
      unfold opS at hv'
      by_cases q : -1000000000 ≤ opR o x y ∧ opR o x y ≤ 1000000000
      · rw [if_pos q] at hv'
        have : opR o x y = v := by simpa using hv'
        rw [← this]
        exact q
      · rw [if_neg q] at hv'; simp at hv'
theorem g_cmp {N K : Nat} {a b : EE} {o : Int} {m m' M : Nat} (o1 : 6 ≤ o) (o2 : o ≤ 8) (ha : GE N K a m) (hb : GE N K b m') (m1 : m ≤ M) (m2 : m' + 1 ≤ M) (m3 : 2 ≤ M) : GB N K (cmpB o a b) M := by
  intro e he
  have w := w_op (o := o) (by omega) o2 (ha e he).1 (hb e he).1 m1 m2 m3 (ha e he).2 (hb e he).2
  have ej : ∀ x y, jnR o x y = bV (cmS o x y) := fun x y => by unfold jnR bV; rw [if_neg (by omega)]
  have eb : ∀ b : Bool, -1000000000 ≤ bV b ∧ bV b ≤ 1000000000 := fun b => by cases b <;> decide
  have ef : ((cmpB o a b).2 e).map bV = (a.2 e).bind fun x => (b.2 e).bind fun y => if -1000000000 ≤ jnR o x y ∧ jnR o x y ≤ 1000000000 then some (jnR o x y) else none := by
    show ((a.2 e).bind fun x => (b.2 e).bind fun y => some (cmS o x y)).map bV = _
    cases a.2 e with
    | none => rfl
    | some x =>
      cases b.2 e with
      | none => rfl
      | some y =>
        simp only [Option.bind_some, Option.map_some]
        rw [ej, if_pos (eb _)]
  rw [ef]
  exact w
theorem g_not {N K : Nat} {a : BT} {m : Nat} (m1 : 1 ≤ m) (ha : GB N K a m) : GB N K (notB a) m := fun e he => w_not m1 (ha e he)
theorem g_or {N K : Nat} {a b : BT} {m : Nat} (m1 : 1 ≤ m) (ha : GB N K a m) (hb : GB N K b m) : GB N K (orB a b) m := by
  intro e he
  have w := w_jmp (o := 10) (Or.inl rfl) m1 (ha e he) (hb e he)
  have ef : (orB a b).2 e = (a.2 e).bind fun x => if x = decide ((10 : Int) = 10) then some x else b.2 e := by
    show ((a.2 e).bind fun x => if x then some true else b.2 e) = _
    cases a.2 e with
    | none => rfl
    | some x => cases x <;> rfl
  rw [ef]
  exact w
theorem g_and {N K : Nat} {a b : BT} {m : Nat} (m1 : 1 ≤ m) (ha : GB N K a m) (hb : GB N K b m) : GB N K (andB a b) m := by
  intro e he
  have w := w_jmp (o := 11) (Or.inr rfl) m1 (ha e he) (hb e he)
  have ef : (andB a b).2 e = (a.2 e).bind fun x => if x = decide ((11 : Int) = 10) then some x else b.2 e := by
    show ((a.2 e).bind fun x => if x then b.2 e else some false) = _
    cases a.2 e with
    | none => rfl
    | some x => cases x <;> rfl
  rw [ef]
  exact w
theorem ln_plainL {tc tv : Nat → Int} {inn : Nat → Nat → Except Nat (EE × Nat × Nat)} {inT : Nat → Nat → Except Nat (BT × Nat × Nat)} (ht : ∀ i l a j l', inT i l = .ok (a, j, l') → ∀ s, 1 ≤ (a.1 s).length) : ∀ (f : Nat) (g : Bool) (i l : Nat) (b : BT) (j l' : Nat), pPlainL tc tv inn inT f g i l = .ok (b, j, l') → ∀ s, 1 ≤ (b.1 s).length := by
  intro f
  induction f with
  | zero => intro g i l b j l' h; unfold pPlainL at h; simp at h
  | succ f ih =>
    intro g i l b j l' h
    unfold pPlainL at h
    by_cases c : tc i = 7
    · rw [if_pos c] at h; exact ih _ _ _ _ _ _ h
    · rw [if_neg c] at h
      obtain ⟨b1, j1, l1, e1, e2⟩ := bd_ok h
      simp only [Except.ok.injEq, Prod.mk.injEq] at e2
      obtain ⟨q1, _, _⟩ := e2
      have hb : ∀ s, 1 ≤ (b1.1 s).length := by
        by_cases c2 : tc i = 140
        · rw [if_pos c2] at e1; exact ht _ _ _ _ _ e1
        · rw [if_neg c2] at e1
          unfold pCmp at e1
          obtain ⟨b2, j2, l2, e3, e4⟩ := bd_ok e1
          by_cases c3 : tc j2 = 160 ∨ tc j2 = 162 ∨ tc j2 = 161
          · rw [if_pos c3] at e4
            obtain ⟨b5, j5, l5, e5, e6⟩ := bd_ok e4
            simp only [Except.ok.injEq, Prod.mk.injEq] at e6
            obtain ⟨q2, _, _⟩ := e6
            intro s
            rw [← q2]
            simp only [cmpB, List.length_append, List.length_cons, List.length_nil]
            omega
          · rw [if_neg c3] at e4; simp at e4
      rw [← q1]
      cases g
      · exact hb
      · intro s
        show 1 ≤ (b1.1 s ++ [(9, 0)]).length
        simp only [List.length_append, List.length_cons, List.length_nil]
        omega
theorem ln_both {tc tv : Nat → Int} {inn : Nat → Nat → Except Nat (EE × Nat × Nat)} {inT : Nat → Nat → Except Nat (BT × Nat × Nat)} (ht : ∀ i l a j l', inT i l = .ok (a, j, l') → ∀ s, 1 ≤ (a.1 s).length) {i l : Nat} {b : BT} {j l' : Nat} (h : pBoth tc tv inn inT i l = .ok (b, j, l')) : ∀ s, 1 ≤ (b.1 s).length := by
  have loop : ∀ (f : Nat) (a : BT) (i l : Nat) (b : BT) (j l' : Nat), pBothL tc tv inn inT f a i l = .ok (b, j, l') → (∀ s, 1 ≤ (a.1 s).length) → ∀ s, 1 ≤ (b.1 s).length := by
    intro f
    induction f with
    | zero => intro a i l b j l' h; unfold pBothL at h; simp at h
    | succ f ih =>
      intro a i l b j l' h ha
      unfold pBothL at h
      by_cases c : tc i = 6
      · rw [if_pos c] at h
        obtain ⟨b1, j1, l1, e1, e2⟩ := bd_ok h
        refine ih _ _ _ _ _ _ e2 (fun s => ?_)
        show 1 ≤ (jmpB 11 a b1 s).length
        rw [jmp_len]
        omega
      · rw [if_neg c] at h
        simp only [Except.ok.injEq, Prod.mk.injEq] at h
        obtain ⟨e1, _, _⟩ := h
        rw [← e1]
        exact ha
  obtain ⟨b1, j1, l1, e1, e2⟩ := bd_ok h
  exact loop _ _ _ _ _ _ _ e2 (ln_plainL ht _ _ _ _ _ _ _ e1)
theorem ln_testG {tc tv : Nat → Int} {inn : Nat → Nat → Except Nat (EE × Nat × Nat)} {inT : Nat → Nat → Except Nat (BT × Nat × Nat)} (ht : ∀ i l a j l', inT i l = .ok (a, j, l') → ∀ s, 1 ≤ (a.1 s).length) {i l : Nat} {b : BT} {j l' : Nat} (h : pTest tc tv inn inT i l = .ok (b, j, l')) : ∀ s, 1 ≤ (b.1 s).length := by
  have loop : ∀ (f : Nat) (a : BT) (i l : Nat) (b : BT) (j l' : Nat), pTestL tc tv inn inT f a i l = .ok (b, j, l') → (∀ s, 1 ≤ (a.1 s).length) → ∀ s, 1 ≤ (b.1 s).length := by
    intro f
    induction f with
    | zero => intro a i l b j l' h; unfold pTestL at h; simp at h
    | succ f ih =>
      intro a i l b j l' h ha
      unfold pTestL at h
      by_cases c : tc i = 5
      · rw [if_pos c] at h
        obtain ⟨b1, j1, l1, e1, e2⟩ := bd_ok h
        refine ih _ _ _ _ _ _ e2 (fun s => ?_)
        show 1 ≤ (jmpB 10 a b1 s).length
        rw [jmp_len]
        omega
      · rw [if_neg c] at h
        simp only [Except.ok.injEq, Prod.mk.injEq] at h
        obtain ⟨e1, _, _⟩ := h
        rw [← e1]
        exact ha
  obtain ⟨b1, j1, l1, e1, e2⟩ := bd_ok h
  exact loop _ _ _ _ _ _ _ e2 (ln_both ht e1)
theorem ln_inT {tc tv : Nat → Int} : ∀ d i l a j l', pInT tc tv d i l = .ok (a, j, l') → ∀ s, 1 ≤ (a.1 s).length := by
  intro d
  induction d with
  | zero => intro i l a j l' h; unfold pInT at h; simp at h
  | succ d ih =>
    intro i l a j l' h
    unfold pInT at h
    obtain ⟨b1, j1, l1, e1, e2⟩ := bd_ok h
    have p1 := ln_testG ih e1
    by_cases c : tc j1 = 141
    · rw [if_pos c] at e2
      simp only [Except.ok.injEq, Prod.mk.injEq] at e2
      obtain ⟨q1, _, _⟩ := e2
      rw [← q1]
      exact p1
    · rw [if_neg c] at e2; simp at e2
theorem ln_test {tc tv : Nat → Int} {d i l : Nat} {b : BT} {j l' : Nat} (h : pTest tc tv (pIn tc tv d) (pInT tc tv d) i l = .ok (b, j, l')) : ∀ s, 1 ≤ (b.1 s).length := ln_testG (ln_inT d) h
section GP
variable {tc tv : Nat → Int} {N K : Nat}
def gpE (N K : Nat) (P : Nat → Nat → Except Nat (EE × Nat × Nat)) (m : Nat) : Prop := ∀ i l a j l', P i l = .ok (a, j, l') → GE N K a m
def gpB (N K : Nat) (P : Nat → Nat → Except Nat (BT × Nat × Nat)) (m : Nat) : Prop := ∀ i l a j l', P i l = .ok (a, j, l') → GB N K a m
theorem gp_part (h0 : ∀ i, 0 ≤ tv i) {inn : Nat → Nat → Except Nat (EE × Nat × Nat)} {m : Nat} (m1 : 1 ≤ m) (hi : gpE N K inn m) : gpE N K (pPart tc tv inn) m := by
  intro i l a j l' h
  unfold pPart at h
  by_cases c : tc i = 191
  · rw [if_pos c] at h; exact hi i l a j l' h
  · rw [if_neg c] at h
    by_cases c2 : (tc i = 50 ∧ tv i ≤ 1000) ∨ (8 ≤ tc i ∧ tc i ≤ 12)
    · rw [if_pos c2] at h
      by_cases c3 : 50 ≤ l
      · rw [if_pos c3] at h; simp at h
      · rw [if_neg c3] at h
        simp only [Except.ok.injEq, Prod.mk.injEq] at h
        obtain ⟨e1, _, _⟩ := h
        rw [← e1]
        by_cases c5 : tc i = 50
        · rw [if_pos c5]; exact GE_mono (g_num (h0 i) (by omega)) m1
        · rw [if_neg c5]; exact GE_mono (g_wrd (by omega) (by omega)) m1
    · rw [if_neg c2] at h; simp at h
theorem gp_termL (h0 : ∀ i, 0 ≤ tv i) {inn : Nat → Nat → Except Nat (EE × Nat × Nat)} {m : Nat} (m1 : 1 ≤ m) (hi : gpE N K inn m) : ∀ (f : Nat) (a : EE) (i l : Nat) (b : EE) (j l' : Nat), pTermL tc tv inn f a i l = .ok (b, j, l') → GE N K a (m + 1) → GE N K b (m + 1) := by
  intro f
  induction f with
  | zero => intro a i l b j l' h; unfold pTermL at h; simp at h
  | succ f ih =>
    intro a i l b j l' h ha
    unfold pTermL at h
    by_cases c : tc i = 142 ∨ tc i = 147
    · rw [if_pos c] at h
      obtain ⟨b1, j1, l1, e1, e2⟩ := bd_ok h
      have p1 := gp_part h0 m1 hi _ _ _ _ _ e1
      refine ih _ _ _ _ _ _ e2 (g_bin ?_ ?_ ha p1 (by omega) (by omega) (by omega))
      · split <;> omega
      · split <;> omega
    · rw [if_neg c] at h
      simp only [Except.ok.injEq, Prod.mk.injEq] at h
      obtain ⟨e1, _, _⟩ := h
      rw [← e1]
      exact ha
theorem gp_term (h0 : ∀ i, 0 ≤ tv i) {inn : Nat → Nat → Except Nat (EE × Nat × Nat)} {m : Nat} (m1 : 1 ≤ m) (hi : gpE N K inn m) : gpE N K (pTerm tc tv inn) (m + 1) := by
  intro i l a j l' h
  obtain ⟨b1, j1, l1, e1, e2⟩ := bd_ok h
  exact gp_termL h0 m1 hi _ _ _ _ _ _ _ e2 (GE_mono (gp_part h0 m1 hi _ _ _ _ _ e1) (by omega))
theorem gp_sumL (h0 : ∀ i, 0 ≤ tv i) {inn : Nat → Nat → Except Nat (EE × Nat × Nat)} {m : Nat} (m1 : 1 ≤ m) (hi : gpE N K inn m) : ∀ (f : Nat) (a : EE) (i l : Nat) (b : EE) (j l' : Nat), pSumL tc tv inn f a i l = .ok (b, j, l') → GE N K a (m + 2) → GE N K b (m + 2) := by
  intro f
  induction f with
  | zero => intro a i l b j l' h; unfold pSumL at h; simp at h
  | succ f ih =>
    intro a i l b j l' h ha
    unfold pSumL at h
    by_cases c : tc i = 143 ∨ tc i = 145
    · rw [if_pos c] at h
      obtain ⟨b1, j1, l1, e1, e2⟩ := bd_ok h
      have p1 := gp_term h0 m1 hi _ _ _ _ _ e1
      refine ih _ _ _ _ _ _ e2 (g_bin ?_ ?_ ha p1 (by omega) (by omega) (by omega))
      · split <;> omega
      · split <;> omega
    · rw [if_neg c] at h
      simp only [Except.ok.injEq, Prod.mk.injEq] at h
      obtain ⟨e1, _, _⟩ := h
      rw [← e1]
      exact ha
theorem gp_sum (h0 : ∀ i, 0 ≤ tv i) {inn : Nat → Nat → Except Nat (EE × Nat × Nat)} {m : Nat} (m1 : 1 ≤ m) (hi : gpE N K inn m) : gpE N K (pSum tc tv inn) (m + 2) := by
  intro i l a j l' h
  obtain ⟨b1, j1, l1, e1, e2⟩ := bd_ok h
  exact gp_sumL h0 m1 hi _ _ _ _ _ _ _ e2 (GE_mono (gp_term h0 m1 hi _ _ _ _ _ e1) (by omega))
theorem gp_in (h0 : ∀ i, 0 ≤ tv i) : ∀ d : Nat, gpE N K (pIn tc tv d) (1 + 2 * d) := by
  intro d
  induction d with
  | zero => intro i l a j l' h; unfold pIn at h; simp at h
  | succ d ih =>
    intro i l a j l' h
    unfold pIn at h
    obtain ⟨b1, j1, l1, e1, e2⟩ := bd_ok h
    have p1 := gp_sum h0 (by omega) ih _ _ _ _ _ e1
    by_cases c : tc j1 = 193
    · rw [if_pos c] at e2
      simp only [Except.ok.injEq, Prod.mk.injEq] at e2
      obtain ⟨q1, _, _⟩ := e2
      rw [← q1]
      exact GE_mono p1 (by omega)
    · rw [if_neg c] at e2; simp at e2
theorem gp_cmp (h0 : ∀ i, 0 ≤ tv i) {inn : Nat → Nat → Except Nat (EE × Nat × Nat)} {m : Nat} (m1 : 1 ≤ m) (hi : gpE N K inn m) : gpB N K (pCmp tc tv inn) (m + 3) := by
  intro i l a j l' h
  unfold pCmp at h
  obtain ⟨b1, j1, l1, e1, e2⟩ := bd_ok h
  have p1 := gp_sum h0 m1 hi _ _ _ _ _ e1
  by_cases c : tc j1 = 160 ∨ tc j1 = 162 ∨ tc j1 = 161
  · rw [if_pos c] at e2
    obtain ⟨b2, j2, l2, e3, e4⟩ := bd_ok e2
    have p2 := gp_sum h0 m1 hi _ _ _ _ _ e3
    simp only [Except.ok.injEq, Prod.mk.injEq] at e4
    obtain ⟨q1, _, _⟩ := e4
    rw [← q1]
    refine g_cmp ?_ ?_ p1 p2 (by omega) (by omega) (by omega)
    · split
      · omega
      · split <;> omega
    · split
      · omega
      · split <;> omega
  · rw [if_neg c] at e2; simp at e2
theorem gp_plainL (h0 : ∀ i, 0 ≤ tv i) {inn : Nat → Nat → Except Nat (EE × Nat × Nat)} {inT : Nat → Nat → Except Nat (BT × Nat × Nat)} {m : Nat} (m1 : 1 ≤ m) (hi : gpE N K inn m) (ht : gpB N K inT (m + 3)) : ∀ (f : Nat) (g : Bool) (i l : Nat) (b : BT) (j l' : Nat), pPlainL tc tv inn inT f g i l = .ok (b, j, l') → GB N K b (m + 3) := by
  intro f
  induction f with
  | zero => intro g i l b j l' h; unfold pPlainL at h; simp at h
  | succ f ih =>
    intro g i l b j l' h
    unfold pPlainL at h
    by_cases c : tc i = 7
    · rw [if_pos c] at h; exact ih _ _ _ _ _ _ h
    · rw [if_neg c] at h
      obtain ⟨b1, j1, l1, e1, e2⟩ := bd_ok h
      simp only [Except.ok.injEq, Prod.mk.injEq] at e2
      obtain ⟨q1, _, _⟩ := e2
      have hb : GB N K b1 (m + 3) := by
        by_cases c2 : tc i = 140
        · rw [if_pos c2] at e1; exact ht _ _ _ _ _ e1
        · rw [if_neg c2] at e1; exact gp_cmp h0 m1 hi _ _ _ _ _ e1
      rw [← q1]
      cases g
      · exact hb
      · exact g_not (by omega) hb
theorem gp_plain (h0 : ∀ i, 0 ≤ tv i) {inn : Nat → Nat → Except Nat (EE × Nat × Nat)} {inT : Nat → Nat → Except Nat (BT × Nat × Nat)} {m : Nat} (m1 : 1 ≤ m) (hi : gpE N K inn m) (ht : gpB N K inT (m + 3)) : gpB N K (pPlain tc tv inn inT) (m + 3) := fun i l a j l' h => gp_plainL h0 m1 hi ht _ _ _ _ _ _ _ h
theorem gp_bothL (h0 : ∀ i, 0 ≤ tv i) {inn : Nat → Nat → Except Nat (EE × Nat × Nat)} {inT : Nat → Nat → Except Nat (BT × Nat × Nat)} {m : Nat} (m1 : 1 ≤ m) (hi : gpE N K inn m) (ht : gpB N K inT (m + 3)) : ∀ (f : Nat) (a : BT) (i l : Nat) (b : BT) (j l' : Nat), pBothL tc tv inn inT f a i l = .ok (b, j, l') → GB N K a (m + 3) → GB N K b (m + 3) := by
  intro f
  induction f with
  | zero => intro a i l b j l' h; unfold pBothL at h; simp at h
  | succ f ih =>
    intro a i l b j l' h ha
    unfold pBothL at h
    by_cases c : tc i = 6
    · rw [if_pos c] at h
      obtain ⟨b1, j1, l1, e1, e2⟩ := bd_ok h
      have p1 := gp_plain h0 m1 hi ht _ _ _ _ _ e1
      exact ih _ _ _ _ _ _ e2 (g_and (by omega) ha p1)
    · rw [if_neg c] at h
      simp only [Except.ok.injEq, Prod.mk.injEq] at h
      obtain ⟨e1, _, _⟩ := h
      rw [← e1]
      exact ha
theorem gp_both (h0 : ∀ i, 0 ≤ tv i) {inn : Nat → Nat → Except Nat (EE × Nat × Nat)} {inT : Nat → Nat → Except Nat (BT × Nat × Nat)} {m : Nat} (m1 : 1 ≤ m) (hi : gpE N K inn m) (ht : gpB N K inT (m + 3)) : gpB N K (pBoth tc tv inn inT) (m + 3) := by
  intro i l a j l' h
  obtain ⟨b1, j1, l1, e1, e2⟩ := bd_ok h
  exact gp_bothL h0 m1 hi ht _ _ _ _ _ _ _ e2 (gp_plain h0 m1 hi ht _ _ _ _ _ e1)
theorem gp_testL (h0 : ∀ i, 0 ≤ tv i) {inn : Nat → Nat → Except Nat (EE × Nat × Nat)} {inT : Nat → Nat → Except Nat (BT × Nat × Nat)} {m : Nat} (m1 : 1 ≤ m) (hi : gpE N K inn m) (ht : gpB N K inT (m + 3)) : ∀ (f : Nat) (a : BT) (i l : Nat) (b : BT) (j l' : Nat), pTestL tc tv inn inT f a i l = .ok (b, j, l') → GB N K a (m + 3) → GB N K b (m + 3) := by
  intro f
  induction f with
  | zero => intro a i l b j l' h; unfold pTestL at h; simp at h
  | succ f ih =>
    intro a i l b j l' h ha
    unfold pTestL at h
    by_cases c : tc i = 5
    · rw [if_pos c] at h
      obtain ⟨b1, j1, l1, e1, e2⟩ := bd_ok h
      have p1 := gp_both h0 m1 hi ht _ _ _ _ _ e1
      exact ih _ _ _ _ _ _ e2 (g_or (by omega) ha p1)
    · rw [if_neg c] at h
      simp only [Except.ok.injEq, Prod.mk.injEq] at h
      obtain ⟨e1, _, _⟩ := h
      rw [← e1]
      exact ha
theorem gp_test (h0 : ∀ i, 0 ≤ tv i) {inn : Nat → Nat → Except Nat (EE × Nat × Nat)} {inT : Nat → Nat → Except Nat (BT × Nat × Nat)} {m : Nat} (m1 : 1 ≤ m) (hi : gpE N K inn m) (ht : gpB N K inT (m + 3)) : gpB N K (pTest tc tv inn inT) (m + 3) := by
  intro i l a j l' h
  obtain ⟨b1, j1, l1, e1, e2⟩ := bd_ok h
  exact gp_testL h0 m1 hi ht _ _ _ _ _ _ _ e2 (gp_both h0 m1 hi ht _ _ _ _ _ e1)
theorem gp_inT (h0 : ∀ i, 0 ≤ tv i) : ∀ d : Nat, gpB N K (pInT tc tv d) (1 + 2 * d + 3) := by
  intro d
  induction d with
  | zero => intro i l a j l' h; unfold pInT at h; simp at h
  | succ d ih =>
    intro i l a j l' h
    unfold pInT at h
    obtain ⟨b1, j1, l1, e1, e2⟩ := bd_ok h
    have p1 := gp_test h0 (by omega) (gp_in h0 d) ih _ _ _ _ _ e1
    by_cases c : tc j1 = 141
    · rw [if_pos c] at e2
      simp only [Except.ok.injEq, Prod.mk.injEq] at e2
      obtain ⟨q1, _, _⟩ := e2
      rw [← q1]
      exact GB_mono p1 (by omega)
    · rw [if_neg c] at e2; simp at e2
def GC (N K : Nat) (c : CL) : Prop := (0 ≤ c.1 ∧ c.1 ≤ 2) ∧ GE N K c.2.1 20 ∧ ∀ b, c.2.2 = some b → GB N K b 20 ∧ ∀ s, 1 ≤ (b.1 s).length
theorem gp_clause (h0 : ∀ i, 0 ≤ tv i) {i l : Nat} {c : CL} {j l' : Nat} (h : pClause tc tv i l = .ok (c, j, l')) : GC N K c := by
  unfold pClause at h
  by_cases c0 : 1 ≤ tc i ∧ tc i ≤ 3
  · rw [if_pos c0] at h
    obtain ⟨b1, j1, l1, e1, e2⟩ := bd_ok h
    have p1 := gp_sum h0 (by omega) (gp_in (N := N) (K := K) h0 8) _ _ _ _ _ e1
    by_cases c4 : tc j1 = 4
    · rw [if_pos c4] at e2
      obtain ⟨b2, j2, l2, e3, e4⟩ := bd_ok e2
      have p2 := gp_test h0 (by omega) (gp_in (N := N) (K := K) h0 8) (gp_inT h0 8) _ _ _ _ _ e3
      simp only [Except.ok.injEq, Prod.mk.injEq] at e4
      obtain ⟨q1, _, _⟩ := e4
      rw [← q1]
      refine ⟨⟨by show 0 ≤ tc i - 1; omega, by show tc i - 1 ≤ 2; omega⟩, GE_mono p1 (by omega), fun b hb => ?_⟩
      have : b2 = b := by simpa using hb
      subst this
      exact ⟨p2, ln_test e3⟩
    · rw [if_neg c4] at e2
      simp only [Except.ok.injEq, Prod.mk.injEq] at e2
      obtain ⟨q1, _, _⟩ := e2
      rw [← q1]
      refine ⟨⟨by show 0 ≤ tc i - 1; omega, by show tc i - 1 ≤ 2; omega⟩, GE_mono p1 (by omega), fun b hb => by simp at hb⟩
  · rw [if_neg c0] at h; simp at h
theorem gp_rd (h0 : ∀ i, 0 ≤ tv i) : ∀ (a : List CL) (i j : Nat), rdC tc tv a i j → ∀ c ∈ a, GC N K c
  | [], i, j, h => h.elim
  | [c], i, j, h => by
    obtain ⟨l, l', e⟩ := h
    intro x hx
    have : x = c := by simpa using hx
    rw [this]
    exact gp_clause h0 e
  | c :: d :: cs, i, j, h => by
    obtain ⟨l, k, l', e, e59, r⟩ := h
    intro x hx
    rcases List.mem_cons.mp hx with z | z
    · rw [z]; exact gp_clause h0 e
    · exact gp_rd h0 (d :: cs) (k + 1) j r x z
end GP
