/-! the reference says a law: tests -/
def rvB (live : Bool) (τ t : qMem) (f : Option Bool) (v : Int32) : Prop := (live = true → gi τ 0 39 = 0 → (∀ x, f = some x → v = bI x ∧ gi t 0 39 = 0) ∧ (f = none → gi t 0 39 = 1)) ∧ ((live = false ∨ gi τ 0 39 ≠ 0) → gi t 0 39 = gi τ 0 39) ∧ (v = 0 ∨ v = 1)
def boQ (tc tv : Nat → Int) (n : Nat) (e : Nat → Int) (i : Nat) (live : Bool) (τ0 τ : qMem) (f : Option Bool) (y : Int32 × qMem) : Prop := Ev tc tv n e i y.2 ∧ frG τ y.2 ∧ rvB live τ0 y.2 f y.1
def RvB (tc tv : Nat → Int) (n : Nat) (e : Nat → Int) (F : Int32 → qMem → Option (Int32 × qMem)) (P : Nat → Nat → Except Nat (BT × Nat × Nat)) : Prop := ∀ i l a j l', P i l = .ok (a, j, l') → i ≤ n → ∀ live τ, Ev tc tv n e i τ → Ho (F (bI live) τ) (boQ tc tv n e j live τ τ (a.2 e)) ∧ j ≤ n ∧ i < j
theorem h0K {tc tv : Nat → Int} {n : Nat} {e : Nat → Int} (h : okK tc tv n e) : ∀ x, tc x ≠ 0 → x < n := fun x hx => by
  by_cases q : x < n
  · exact q
  · exact absurd (h.2.2.1 x (by omega)) hx
section ET
variable {tc tv : Nat → Int} {n : Nat} {e : Nat → Int}
theorem v_pos {N : Nat} {rT : Int32 → qMem → Option (Int32 × qMem)} {d : Nat} (hN : 200000 ≤ N) (h : okK tc tv n e) (hd : d ≤ 8) (hi : ∀ d', d = d' + 1 → RvB tc tv n e rT (pTest tc tv (pIn tc tv d') (pInT tc tv d'))) : RvB tc tv n e (fX12_positiveOf N rT) (fun i l => if tc i = 140 then pInT tc tv d i l else pCmp tc tv (pIn tc tv d) i l) := by
  have hn := h.1
  have h0 := h0K h
  have hS := v_sums hN h d 10 (by omega)
  intro i l a j l' hp hin live τ he
  have ps : fX12_passes (100 + 40) τ = _ := r_passes h (c := 140) he (by omega) (by omega) (by omega)
  unfold fX12_positiveOf fX12_sign
  rw [Option.bind_some, ps]
  obtain ⟨s1, s2, s3⟩ := Ev_step he
  simp only at hp
  by_cases c : tc i = 140
  · rw [if_pos c] at hp
    rw [if_pos c, Option.bind_some, if_neg (show ¬ ((1 : Int32), si τ 0 37 (gi τ 0 37 + 1)).1 = 0 from n10)]
    cases d with
    | zero => unfold pInT at hp; simp at hp
    | succ d =>
      unfold pInT at hp
      obtain ⟨b1, j1, l1, e1, e2⟩ := bd_ok hp
      by_cases c3 : tc j1 = 141
      · rw [if_pos c3] at e2
        simp only [Except.ok.injEq, Prod.mk.injEq] at e2
        obtain ⟨q1, q2, q3⟩ := e2
        subst q1 q2
        obtain ⟨H, jn, ij⟩ := hi d rfl (i + 1) l b1 j1 l1 e1 (h0 i (by omega)) live _ s1
        refine ⟨?_, h0 j1 (by omega), by omega⟩
        refine Ho_bind H (fun y ⟨y1, y2, y3⟩ => ?_)
        simp only [nmM]
        obtain ⟨u1, u2, u3⟩ := Ev_step y1
        rw [if_pos y3.2.2]
        refine Ho_some ⟨u1, frG_trans s2 (frG_trans y2 u2), ?_⟩
        unfold rvB at y3 ⊢
        rw [s3] at y3
        show (live = true → _ → (∀ x, _ → _ ∧ gi (si y.2 0 37 (gi y.2 0 37 + 1)) 0 39 = 0) ∧ _) ∧ _
        rw [u3]
        exact y3
      · rw [if_neg c3] at e2; simp at e2
  · rw [if_neg c] at hp
    rw [if_neg c, Option.bind_some, if_pos rfl]
    unfold pCmp at hp
    obtain ⟨a1, j1, l1, e1, e2⟩ := bd_ok hp
    obtain ⟨H1, sa, jn1, ij1⟩ := hS i l a1 j1 l1 e1 hin live τ he
    by_cases c3 : tc j1 = 160 ∨ tc j1 = 162 ∨ tc j1 = 161
    · rw [if_pos c3] at e2
      obtain ⟨b1, j2, l2, e3, e4⟩ := bd_ok e2
      simp only [Except.ok.injEq, Prod.mk.injEq] at e4
      obtain ⟨q1, q2, q3⟩ := e4
      subst q2
      obtain ⟨y, ey, y1, y2, y3⟩ := Ho_get H1
      obtain ⟨t1, t2, t3⟩ := Ev_step y1
      obtain ⟨H2, sb, jn2, ij2⟩ := hS (j1 + 1) l1 b1 j2 l2 e3 (h0 j1 (by omega)) live _ t1
      obtain ⟨z, ez, z1, z2, z3⟩ := Ho_get H2
      refine ⟨?_, jn2, by omega⟩
      show Ho ((fX12_sumOf N 10 (bI live) τ).bind _) _
      rw [ey, Option.bind_some, r_codeAt h y1 (by omega), Option.bind_some]
      simp only [nmM]
      rw [ez, Option.bind_some]
      have r := tc_rK h j1
      have c60 : (zI (tc j1) = 100 + 60) = (tc j1 = 160) := by rw [show (100 + 60 : Int32) = zI 160 from rfl, zI_eq r.1 r.2 (by omega) (by omega)]
      have c62 : (zI (tc j1) = 100 + 62) = (tc j1 = 162) := by rw [show (100 + 62 : Int32) = zI 162 from rfl, zI_eq r.1 r.2 (by omega) (by omega)]
      have fr := frG_trans y2 (frG_trans t2 z2)
      unfold fX12_positiveOf_b125 fX12_positiveOf_b121
      simp only [Option.bind_some, c60, c62]
      have hf : a.2 e = (a1.2 e).bind fun x => (b1.2 e).bind fun w => some (cmS (if tc j1 = 160 then 6 else if tc j1 = 162 then 7 else 8) x w) := by rw [← q1]; rfl
      rw [hf]
      -- when nothing counts the answer is no
      have dead : ∀ (k : gi z.2 0 39 = gi τ 0 39) (dd : live = false ∨ gi τ 0 39 ≠ 0), Ho (some ((0 : Int32), z.2)) (boQ tc tv n e j2 live τ τ ((a1.2 e).bind fun x => (b1.2 e).bind fun w => some (cmS (if tc j1 = 160 then 6 else if tc j1 = 162 then 7 else 8) x w))) := fun k dd => Ho_some ⟨z1, fr, fun q1 q2 => by
        rcases dd with w | w
        · rw [w] at q1; simp at q1
        · exact absurd q2 w, fun _ => k, Or.inl rfl⟩
      cases live with
      | false =>
        rw [bI_f, if_pos rfl]
        have k1 := y3.2 (Or.inl rfl)
        have k2 := z3.2 (Or.inl rfl)
        exact dead (by rw [k2, t3, k1]) (Or.inl rfl)
      | true =>
        rw [bI_t, if_neg n10]
        by_cases b0 : gi τ 0 39 = 0
        · cases hfa : a1.2 e with
          | none =>
            have k1 := (y3.1 rfl b0).2 hfa
            have k2 := z3.2 (Or.inr (by rw [t3, k1]; decide))
            have k3 : gi z.2 0 39 = 1 := by rw [k2, t3, k1]
            rw [if_neg (by rw [k3]; decide)]
            refine Ho_some ⟨z1, fr, fun _ _ => ⟨fun x hx => by simp at hx, fun _ => k3⟩, fun w => ?_, Or.inl rfl⟩
            rcases w with w | w
            · simp at w
            · exact absurd b0 w
          | some x =>
            obtain ⟨vx, k1⟩ := (y3.1 rfl b0).1 x hfa
            have k1' : gi (si y.2 0 37 (gi y.2 0 37 + 1)) 0 39 = 0 := by rw [t3]; exact k1
            cases hfb : b1.2 e with
            | none =>
              have k3 := (z3.1 rfl k1').2 hfb
              rw [if_neg (by rw [k3]; decide)]
              refine Ho_some ⟨z1, fr, fun _ _ => ⟨fun x hx => by simp at hx, fun _ => k3⟩, fun w => ?_, Or.inl rfl⟩
              rcases w with w | w
              · simp at w
              · exact absurd b0 w
            | some w =>
              obtain ⟨vw, k3⟩ := (z3.1 rfl k1').1 w hfb
              rw [if_pos k3, vx, vw]
              have sx := sa x hfa
              have sw := sb w hfb
              unfold smE at sx sw
              have lge : (0 ≤ lg_cmp (zL x) (zL w)) = (w ≤ x) := propext ((lg_cmp_ge _ _).trans (by rw [zL_le (by omega) (by omega) (by omega) (by omega)]))
              have lle : (lg_cmp (zL x) (zL w) ≤ 0) = (x ≤ w) := propext ((lg_cmp_le _ _).trans (by rw [zL_le (by omega) (by omega) (by omega) (by omega)]))
              have leq : (lg_cmp (zL x) (zL w) = 0) = (x = w) := propext ((lg_cmp_eq _ _).trans (by rw [zL_eq (by omega) (by omega) (by omega) (by omega)]))
              simp only [lge, lle, leq]
              have fin : ∀ b : Bool, b = cmS (if tc j1 = 160 then 6 else if tc j1 = 162 then 7 else 8) x w → Ho (some (bI b, z.2)) (boQ tc tv n e j2 true τ τ ((some x).bind fun x => (some w).bind fun w => some (cmS (if tc j1 = 160 then 6 else if tc j1 = 162 then 7 else 8) x w))) := fun b hb => by
                refine Ho_some ⟨z1, fr, fun _ _ => ⟨fun r hr => ?_, fun q => by simp at q⟩, fun u => ?_, bI_or b⟩
                · simp only [Option.bind_some, Option.some.injEq] at hr
                  rw [← hr, ← hb]
                  exact ⟨rfl, k3⟩
                · rcases u with u | u
                  · simp at u
                  · exact absurd b0 u
              by_cases g1 : tc j1 = 160
              · rw [if_pos g1]
                by_cases g : w ≤ x
                · rw [if_pos g]; exact fin false (by rw [if_pos g1]; unfold cmS; simp; omega)
                · rw [if_neg g]; exact fin true (by rw [if_pos g1]; unfold cmS; simp; omega)
              · rw [if_neg g1]
                by_cases g2 : tc j1 = 162
                · rw [if_pos g2]
                  by_cases g : x ≤ w
                  · rw [if_pos g]; exact fin false (by rw [if_neg g1, if_pos g2]; unfold cmS; simp; omega)
                  · rw [if_neg g]; exact fin true (by rw [if_neg g1, if_pos g2]; unfold cmS; simp; omega)
                · rw [if_neg g2]
                  by_cases g : x = w
                  · rw [if_pos g]; exact fin true (by rw [if_neg g1, if_neg g2]; unfold cmS; simp [g])
                  · rw [if_neg g]; exact fin false (by rw [if_neg g1, if_neg g2]; unfold cmS; simp [g])
        · have k1 := y3.2 (Or.inr b0)
          have k2 := z3.2 (Or.inr (by rw [t3, k1]; exact b0))
          have k3 : gi z.2 0 39 = gi τ 0 39 := by rw [k2, t3, k1]
          rw [if_neg (by rw [k3]; exact b0)]
          exact dead k3 (Or.inr b0)
    · rw [if_neg c3] at e2; simp at e2
theorem v_plain {N : Nat} {rT : Int32 → qMem → Option (Int32 × qMem)} {d : Nat} (hN : 200000 ≤ N) (h : okK tc tv n e) (hd : d ≤ 8) (hi : ∀ d', d = d' + 1 → RvB tc tv n e rT (pTest tc tv (pIn tc tv d') (pInT tc tv d'))) : RvB tc tv n e (fX12_plainOf N rT) (pPlain tc tv (pIn tc tv d) (pInT tc tv d)) := by
  have hn := h.1
  have h0 := h0K h
  have hP := v_pos hN h hd hi
  have loop : ∀ (f nf : Nat) (g : Bool) (i l : Nat) (b : BT) (j l' : Nat), pPlainL tc tv (pIn tc tv d) (pInT tc tv d) f g i l = .ok (b, j, l') → i ≤ n → n < nf + i → ∀ live τ, Ev tc tv n e i τ → Ho (fX12_plainOf_l2 N rT nf (bI live) (bI g) τ) (boQ tc tv n e j live τ τ (b.2 e)) ∧ j ≤ n ∧ i < j := by
    intro f
    induction f with
    | zero => intro nf g i l b j l' hp; unfold pPlainL at hp; simp at hp
    | succ f ih =>
      intro nf g i l b j l' hp hin hnf live τ he
      obtain ⟨nf, rfl⟩ : ∃ k, nf = k + 1 := ⟨nf - 1, by omega⟩
      have ps : fX12_passes 7 τ = _ := r_passes h (c := 7) he (by omega) (by omega) (by omega)
      obtain ⟨s1, s2, s3⟩ := Ev_step he
      show Ho (fX12_plainOf_s2 N rT _ (bI live) (bI g) τ) _ ∧ _
      unfold fX12_plainOf_s2 fX12_plainOf_b20
      rw [ps]
      unfold pPlainL at hp
      by_cases c : tc i = 7
      · rw [if_pos c] at hp
        rw [if_pos c, Option.bind_some, if_neg (show ¬ ((1 : Int32), si τ 0 37 (gi τ 0 37 + 1)).1 = 0 from n10)]
        obtain ⟨H, jn, ij⟩ := ih nf (!g) (i + 1) l b j l' hp (h0 i (by omega)) (by omega) live _ s1
        refine ⟨?_, jn, by omega⟩
        have H' : Ho (fX12_plainOf_l2 N rT nf (bI live) (bI (!g)) (si τ 0 37 (gi τ 0 37 + 1))) (boQ tc tv n e j live τ τ (b.2 e)) := Ho_mono H (fun y ⟨y1, y2, y3⟩ => ⟨y1, frG_trans s2 y2, by unfold rvB at y3 ⊢; rw [s3] at y3; exact y3⟩)
        cases g
        · exact H'
        · exact H'
      · rw [if_neg c] at hp
        rw [if_neg c, Option.bind_some, if_pos rfl]
        obtain ⟨a1, j1, l1, e1, e2⟩ := bd_ok hp
        simp only [Except.ok.injEq, Prod.mk.injEq] at e2
        obtain ⟨q1, q2, q3⟩ := e2
        subst q2
        obtain ⟨H, jn, ij⟩ := hP i l a1 j1 l1 e1 hin live τ he
        refine ⟨?_, jn, ij⟩
        refine Ho_bind H (fun y ⟨y1, y2, y3⟩ => ?_)
        have hg : b.2 e = if g then (a1.2 e).map (fun x => !x) else a1.2 e := by rw [← q1]; cases g <;> rfl
        have ev : ∀ r : Int32, (if y.1 = bI g then some ((0 : Int32), y.2) else some (1, y.2)) = some (r, y.2) → (r = 0 ∨ r = 1) ∧ ∀ x, y.1 = bI x → r = bI (x ^^ g) := by
          intro r hr
          by_cases q : y.1 = bI g
          · rw [if_pos q] at hr
            have : r = 0 := by simpa using hr.symm
            refine ⟨Or.inl this, fun x hx => ?_⟩
            rw [hx] at q
            have xg : x = g := by cases x <;> cases g <;> first | rfl | (exact absurd q (by decide))
            subst xg
            rw [Bool.xor_self, this]
            rfl
          · rw [if_neg q] at hr
            have : r = 1 := by simpa using hr.symm
            refine ⟨Or.inr this, fun x hx => ?_⟩
            rw [this]
            cases x <;> cases g <;> first | rfl | (exact absurd hx q)
        have ex : ∃ r, (if y.1 = bI g then some ((0 : Int32), y.2) else some (1, y.2)) = some (r, y.2) := by
          split
          · exact ⟨0, rfl⟩
          · exact ⟨1, rfl⟩
        obtain ⟨r, er⟩ := ex
        obtain ⟨r1, r2⟩ := ev r er
        show Ho (if y.1 = bI g then some ((0 : Int32), y.2) else some (1, y.2)) _
        rw [er]
        refine Ho_some ⟨y1, y2, fun q1 q2 => ⟨fun x hx => ?_, fun hx => ?_⟩, y3.2.1, r1⟩
        · rw [hg] at hx
          cases hfa : a1.2 e with
          | none => rw [hfa] at hx; cases g <;> simp at hx
          | some z =>
            obtain ⟨k1, k2⟩ := (y3.1 q1 q2).1 z hfa
            refine ⟨?_, k2⟩
            show r = bI x
            rw [r2 z k1]
            rw [hfa] at hx
            cases g
            · have : z = x := by simpa using hx
              rw [this, Bool.xor_false]
            · have : (!z) = x := by simpa using hx
              rw [← this, Bool.xor_true]
        · refine (y3.1 q1 q2).2 ?_
          rw [hg] at hx
          cases g
          · simpa using hx
          · simpa using hx
  intro i l a j l' hp hin live τ he
  exact loop 500 N false i l a j l' hp hin (by omega) live τ he
theorem v_both {N : Nat} {rT : Int32 → qMem → Option (Int32 × qMem)} {P : Nat → Nat → Except Nat (EE × Nat × Nat)} {PT : Nat → Nat → Except Nat (BT × Nat × Nat)} (hN : 200000 ≤ N) (h : okK tc tv n e) (hP : RvB tc tv n e (fX12_plainOf N rT) (pPlain tc tv P PT)) : RvB tc tv n e (fX12_bothOf N rT) (pBoth tc tv P PT) := by
  have hn := h.1
  have h0 := h0K h
  have loop : ∀ (f nf : Nat) (a : BT) (i l : Nat) (b : BT) (j l' : Nat), pBothL tc tv P PT f a i l = .ok (b, j, l') → i ≤ n → n < nf + i → ∀ live τ0 τ v, Ev tc tv n e i τ → rvB live τ0 τ (a.2 e) v → Ho (fX12_bothOf_l6 N rT nf (bI live) v τ) (boQ tc tv n e j live τ0 τ (b.2 e)) ∧ j ≤ n ∧ i ≤ j := by
    intro f
    induction f with
    | zero => intro nf a i l b j l' hp; unfold pBothL at hp; simp at hp
    | succ f ih =>
      intro nf a i l b j l' hp hin hnf live τ0 τ v he ra
      obtain ⟨nf, rfl⟩ : ∃ k, nf = k + 1 := ⟨nf - 1, by omega⟩
      have ps : fX12_passes 6 τ = _ := r_passes h (c := 6) he (by omega) (by omega) (by omega)
      obtain ⟨s1, s2, s3⟩ := Ev_step he
      unfold pBothL at hp
      by_cases c : tc i = 6
      · rw [if_pos c] at hp
        obtain ⟨b1, j1, l1, e1, e2⟩ := bd_ok hp
        -- whether what comes counts
        have ef : fX12_bothOf_l6 N rT (nf + 1) (bI live) v τ = (fX12_plainOf N rT (bI (live && !decide (v = 0))) (si τ 0 37 (gi τ 0 37 + 1))).bind fun y => fX12_bothOf_l6 N rT nf (bI live) (if v = 0 then 0 else if y.1 = 0 then 0 else (1 : Int32)) y.2 := by
          show fX12_bothOf_s6 N rT _ (bI live) v τ = _
          unfold fX12_bothOf_s6 fX12_bothOf_b28 fX12_bothOf_b29 fX12_bothOf_b45 fX12_bothOf_b46
          rw [ps, if_pos c, Option.bind_some, if_neg (show ¬ ((1 : Int32), si τ 0 37 (gi τ 0 37 + 1)).1 = 0 from n10)]
          have hv := ra.2.2
          rcases hv with hv | hv
          · subst hv
            cases live
            · simp only [bI_f, if_true, Bool.false_and, decide_true]
              all_goals rfl
            · simp only [bI_t, n10f, if_false, if_true, Bool.true_and, decide_true, Bool.not_true, bI_f]
              all_goals rfl
          · subst hv
            cases live
            · simp only [bI_f, if_true, Bool.false_and, n10f, if_false]
              all_goals (first | rfl | (congr 1; funext y3; split <;> rfl))
            · simp only [bI_t, n10f, if_false, Bool.true_and, decide_false, if_true, Bool.not_false, bI_t]
              all_goals (first | rfl | (congr 1; funext y3; split <;> rfl))
        rw [ef]
        obtain ⟨H, jn, ij⟩ := hP (i + 1) l b1 j1 l1 e1 (h0 i (by omega)) (live && !decide (v = 0)) _ s1
        obtain ⟨y, ey, y1, y2, y3⟩ := Ho_get H
        rw [ey, Option.bind_some]
        have rn : rvB live τ0 y.2 ((andB a b1).2 e) (if v = 0 then 0 else if y.1 = 0 then 0 else (1 : Int32)) := by
          have hsem : (andB a b1).2 e = (a.2 e).bind fun x => if x then b1.2 e else some false := rfl
          rw [hsem]
          have vals : (if v = 0 then 0 else if y.1 = 0 then 0 else (1 : Int32)) = 0 ∨ (if v = 0 then 0 else if y.1 = 0 then 0 else (1 : Int32)) = 1 := by
            by_cases qv : v = 0
            · rw [if_pos qv]
              first | exact Or.inl rfl | (split <;> first | exact Or.inl rfl | exact Or.inr rfl)
            · rw [if_neg qv]
              first | exact Or.inr rfl | (split <;> first | exact Or.inl rfl | exact Or.inr rfl)
          have k9 := s3
          by_cases cc : live = true ∧ gi τ0 0 39 = 0
          · obtain ⟨c1, c2⟩ := cc
            subst c1
            refine ⟨fun _ _ => ?_, fun z => ?_, vals⟩
            · cases hfa : a.2 e with
              | none =>
                have k1 := (ra.1 rfl c2).2 hfa
                have k2 := y3.2.1 (Or.inr (by rw [k9, k1]; decide))
                exact ⟨fun x hx => by simp at hx, fun _ => by rw [k2, k9, k1]⟩
              | some x =>
                obtain ⟨vx, k1⟩ := (ra.1 rfl c2).1 x hfa
                subst vx
                cases x
                · have k3 := y3
                  rw [show (true && !decide ((bI false) = 0)) = false by decide] at k3
                  have k2 := k3.2.1 (Or.inl rfl)
                  refine ⟨fun r hr => ?_, fun hr => by simp at hr⟩
                  have : false = r := by simpa using hr
                  subst this
                  exact ⟨rfl, by rw [k2, k9]; exact k1⟩
                · have k3 := y3
                  rw [show (true && !decide ((bI true) = 0)) = true by decide] at k3
                  have k1' : gi (si τ 0 37 (gi τ 0 37 + 1)) 0 39 = 0 := by rw [k9]; exact k1
                  refine ⟨fun r hr => ?_, fun hr => (k3.1 rfl k1').2 hr⟩
                  obtain ⟨m1, m2⟩ := (k3.1 rfl k1').1 r hr
                  refine ⟨?_, m2⟩
                  rw [m1]
                  cases r <;> rfl
            · rcases z with z | z
              · simp at z
              · exact absurd c2 z
          · have d0 : live = false ∨ gi τ0 0 39 ≠ 0 := by
              cases live with
              | false => exact Or.inl rfl
              | true => exact Or.inr (fun z => cc ⟨rfl, z⟩)
            have k1 := ra.2.1 d0
            have k2 := y3.2.1 (by
              rcases d0 with z | z
              · rw [z]; exact Or.inl rfl
              · exact Or.inr (by rw [k9, k1]; exact z))
            exact ⟨fun z1 z2 => absurd ⟨z1, z2⟩ cc, fun _ => by rw [k2, k9, k1], vals⟩
        obtain ⟨H2, jn2, ij2⟩ := ih nf _ j1 l1 b j l' e2 jn (by omega) live τ0 y.2 _ y1 rn
        exact ⟨Ho_mono H2 (fun z ⟨z1, z2, z3⟩ => ⟨z1, frG_trans s2 (frG_trans y2 z2), z3⟩), jn2, by omega⟩
      · rw [if_neg c] at hp
        simp only [Except.ok.injEq, Prod.mk.injEq] at hp
        obtain ⟨q1, q2, q3⟩ := hp
        subst q1 q2
        have ef : fX12_bothOf_l6 N rT (nf + 1) (bI live) v τ = some (v, τ) := by
          show fX12_bothOf_s6 N rT _ (bI live) v τ = _
          unfold fX12_bothOf_s6
          rw [ps, if_neg c, Option.bind_some, if_pos rfl, if_pos ra.2.2]
        rw [ef]
        exact ⟨Ho_some ⟨he, frG_refl τ, ra⟩, hin, by omega⟩
  intro i l a j l' hp hin live τ he
  obtain ⟨b1, j1, l1, e1, e2⟩ := bd_ok hp
  obtain ⟨H, jn, ij⟩ := hP i l b1 j1 l1 e1 hin live τ he
  obtain ⟨y, ey, y1, y2, y3⟩ := Ho_get H
  obtain ⟨H2, jn2, ij2⟩ := loop 500 N b1 j1 l1 a j l' e2 jn (by omega) live τ y.2 y.1 y1 y3
  refine ⟨?_, jn2, by omega⟩
  unfold fX12_bothOf
  rw [ey, Option.bind_some]
  exact Ho_mono H2 (fun z ⟨z1, z2, z3⟩ => ⟨z1, frG_trans y2 z2, z3⟩)
theorem v_test {N : Nat} {rT : Int32 → qMem → Option (Int32 × qMem)} {P : Nat → Nat → Except Nat (EE × Nat × Nat)} {PT : Nat → Nat → Except Nat (BT × Nat × Nat)} (hN : 200000 ≤ N) (h : okK tc tv n e) (hP : RvB tc tv n e (fX12_bothOf N rT) (pBoth tc tv P PT)) : RvB tc tv n e (fX12_testOf_e N rT) (pTest tc tv P PT) := by
  have hn := h.1
  have h0 := h0K h
  have loop : ∀ (f nf : Nat) (a : BT) (i l : Nat) (b : BT) (j l' : Nat), pTestL tc tv P PT f a i l = .ok (b, j, l') → i ≤ n → n < nf + i → ∀ live τ0 τ v, Ev tc tv n e i τ → rvB live τ0 τ (a.2 e) v → Ho (fX12_testOf_l6 N rT nf (bI live) v τ) (boQ tc tv n e j live τ0 τ (b.2 e)) ∧ j ≤ n ∧ i ≤ j := by
    intro f
    induction f with
    | zero => intro nf a i l b j l' hp; unfold pTestL at hp; simp at hp
    | succ f ih =>
      intro nf a i l b j l' hp hin hnf live τ0 τ v he ra
      obtain ⟨nf, rfl⟩ : ∃ k, nf = k + 1 := ⟨nf - 1, by omega⟩
      have ps : fX12_passes 5 τ = _ := r_passes h (c := 5) he (by omega) (by omega) (by omega)
      obtain ⟨s1, s2, s3⟩ := Ev_step he
      unfold pTestL at hp
      by_cases c : tc i = 5
      · rw [if_pos c] at hp
        obtain ⟨b1, j1, l1, e1, e2⟩ := bd_ok hp
        -- whether what comes counts
        have ef : fX12_testOf_l6 N rT (nf + 1) (bI live) v τ = (fX12_bothOf N rT (bI (live && decide (v = 0))) (si τ 0 37 (gi τ 0 37 + 1))).bind fun y => fX12_testOf_l6 N rT nf (bI live) (if v = 0 then (if y.1 = 0 then 0 else 1) else (1 : Int32)) y.2 := by
          show fX12_testOf_s6 N rT _ (bI live) v τ = _
          unfold fX12_testOf_s6 fX12_testOf_b27 fX12_testOf_b28 fX12_testOf_b40 fX12_testOf_b45
          rw [ps, if_pos c, Option.bind_some, if_neg (show ¬ ((1 : Int32), si τ 0 37 (gi τ 0 37 + 1)).1 = 0 from n10)]
          have hv := ra.2.2
          rcases hv with hv | hv
          · subst hv
            cases live
            · simp only [bI_f, if_true, Bool.false_and, decide_true]
              all_goals (first | rfl | (congr 1; funext y3; split <;> rfl))
            · simp only [bI_t, n10f, if_false, if_true, Bool.true_and, decide_true, bI_t]
              all_goals (first | rfl | (congr 1; funext y3; split <;> rfl))
          · subst hv
            cases live
            · simp only [bI_f, if_true, Bool.false_and, n10f, if_false]
              all_goals rfl
            · simp only [bI_t, n10f, if_false, Bool.true_and, decide_false, if_true, bI_f]
              all_goals rfl
        rw [ef]
        obtain ⟨H, jn, ij⟩ := hP (i + 1) l b1 j1 l1 e1 (h0 i (by omega)) (live && decide (v = 0)) _ s1
        obtain ⟨y, ey, y1, y2, y3⟩ := Ho_get H
        rw [ey, Option.bind_some]
        have rn : rvB live τ0 y.2 ((orB a b1).2 e) (if v = 0 then (if y.1 = 0 then 0 else 1) else (1 : Int32)) := by
          have hsem : (orB a b1).2 e = (a.2 e).bind fun x => if x then some true else b1.2 e := rfl
          rw [hsem]
          have vals : (if v = 0 then (if y.1 = 0 then 0 else 1) else (1 : Int32)) = 0 ∨ (if v = 0 then (if y.1 = 0 then 0 else 1) else (1 : Int32)) = 1 := by
            by_cases qv : v = 0
            · rw [if_pos qv]
              first | exact Or.inl rfl | (split <;> first | exact Or.inl rfl | exact Or.inr rfl)
            · rw [if_neg qv]
              first | exact Or.inr rfl | (split <;> first | exact Or.inl rfl | exact Or.inr rfl)
          have k9 := s3
          by_cases cc : live = true ∧ gi τ0 0 39 = 0
          · obtain ⟨c1, c2⟩ := cc
            subst c1
            refine ⟨fun _ _ => ?_, fun z => ?_, vals⟩
            · cases hfa : a.2 e with
              | none =>
                have k1 := (ra.1 rfl c2).2 hfa
                have k2 := y3.2.1 (Or.inr (by rw [k9, k1]; decide))
                exact ⟨fun x hx => by simp at hx, fun _ => by rw [k2, k9, k1]⟩
              | some x =>
                obtain ⟨vx, k1⟩ := (ra.1 rfl c2).1 x hfa
                subst vx
                cases x
                · have k3 := y3
                  rw [show (true && decide ((bI false) = 0)) = true by decide] at k3
                  have k1' : gi (si τ 0 37 (gi τ 0 37 + 1)) 0 39 = 0 := by rw [k9]; exact k1
                  refine ⟨fun r hr => ?_, fun hr => (k3.1 rfl k1').2 hr⟩
                  obtain ⟨m1, m2⟩ := (k3.1 rfl k1').1 r hr
                  refine ⟨?_, m2⟩
                  rw [m1]
                  cases r <;> rfl
                · have k3 := y3
                  rw [show (true && decide ((bI true) = 0)) = false by decide] at k3
                  have k2 := k3.2.1 (Or.inl rfl)
                  refine ⟨fun r hr => ?_, fun hr => by simp at hr⟩
                  have : true = r := by simpa using hr
                  subst this
                  exact ⟨rfl, by rw [k2, k9]; exact k1⟩
            · rcases z with z | z
              · simp at z
              · exact absurd c2 z
          · have d0 : live = false ∨ gi τ0 0 39 ≠ 0 := by
              cases live with
              | false => exact Or.inl rfl
              | true => exact Or.inr (fun z => cc ⟨rfl, z⟩)
            have k1 := ra.2.1 d0
            have k2 := y3.2.1 (by
              rcases d0 with z | z
              · rw [z]; exact Or.inl rfl
              · exact Or.inr (by rw [k9, k1]; exact z))
            exact ⟨fun z1 z2 => absurd ⟨z1, z2⟩ cc, fun _ => by rw [k2, k9, k1], vals⟩
        obtain ⟨H2, jn2, ij2⟩ := ih nf _ j1 l1 b j l' e2 jn (by omega) live τ0 y.2 _ y1 rn
        exact ⟨Ho_mono H2 (fun z ⟨z1, z2, z3⟩ => ⟨z1, frG_trans s2 (frG_trans y2 z2), z3⟩), jn2, by omega⟩
      · rw [if_neg c] at hp
        simp only [Except.ok.injEq, Prod.mk.injEq] at hp
        obtain ⟨q1, q2, q3⟩ := hp
        subst q1 q2
        have ef : fX12_testOf_l6 N rT (nf + 1) (bI live) v τ = some (v, τ) := by
          show fX12_testOf_s6 N rT _ (bI live) v τ = _
          unfold fX12_testOf_s6
          rw [ps, if_neg c, Option.bind_some, if_pos rfl, if_pos ra.2.2]
        rw [ef]
        exact ⟨Ho_some ⟨he, frG_refl τ, ra⟩, hin, by omega⟩
  intro i l a j l' hp hin live τ he
  obtain ⟨b1, j1, l1, e1, e2⟩ := bd_ok hp
  obtain ⟨H, jn, ij⟩ := hP i l b1 j1 l1 e1 hin live τ he
  obtain ⟨y, ey, y1, y2, y3⟩ := Ho_get H
  obtain ⟨H2, jn2, ij2⟩ := loop 500 N b1 j1 l1 a j l' e2 jn (by omega) live τ y.2 y.1 y1 y3
  refine ⟨?_, jn2, by omega⟩
  unfold fX12_testOf_e
  rw [ey, Option.bind_some]
  exact Ho_mono H2 (fun z ⟨z1, z2, z3⟩ => ⟨z1, frG_trans y2 z2, z3⟩)
theorem v_tests {N : Nat} (hN : 200000 ≤ N) (h : okK tc tv n e) : ∀ (d D : Nat), d ≤ 8 → d < D → RvB tc tv n e (fX12_testOf N D) (pTest tc tv (pIn tc tv d) (pInT tc tv d)) := by
  intro d
  induction d with
  | zero =>
    intro D _ hD
    obtain ⟨D, rfl⟩ : ∃ k, D = k + 1 := ⟨D - 1, by omega⟩
    exact v_test hN h (v_both hN h (v_plain hN h (by omega) (fun d' hd' => by omega)))
  | succ d ih =>
    intro D h8 hD
    obtain ⟨D, rfl⟩ : ∃ k, D = k + 1 := ⟨D - 1, by omega⟩
    refine v_test hN h (v_both hN h (v_plain hN h (by omega) (fun d' hd' => ?_)))
    have : d' = d := by omega
    subst this
    exact ih D (by omega) (by omega)
end ET
