/-! the class reads: tests -/
def okT2 (T : Nat → Int) (L : Nat) (F : qMem → Option (Int32 × qMem)) (P : Nat → Nat → Except Nat (BT × Nat × Nat)) : Prop := ∀ σ i l s, St T L i l s σ →
  (∀ a j l', P i l = .ok (a, j, l') → ∃ σ', F σ = some (1, σ') ∧ St T L j l' (s + (a.1 s).length) σ' ∧ grew s (a.1 s) σ σ' ∧ frR σ σ') ∧ (∀ p, P i l = .error p → ∃ σ', F σ = some (0, σ') ∧ gi σ' 77 4 = zI (tkF T L p) ∧ frR σ σ')
def okBi (T : Nat → Int) (L : Nat) (F : qMem → Option (Int32 × qMem)) (P : Nat → Nat → Except Nat (BT × Nat × Nat)) : Prop := ∀ σ i l s, tcS T L i = 140 → St T L i l s σ →
  (∀ a j l', P i l = .ok (a, j, l') → ∃ σ', F σ = some (1, σ') ∧ St T L j l' (s + (a.1 s).length) σ' ∧ grew s (a.1 s) σ σ' ∧ frR σ σ') ∧ (∀ p, P i l = .error p → ∃ σ', F σ = some (0, σ') ∧ gi σ' 77 4 = zI (tkF T L p) ∧ frR σ σ')
section RT
variable {T : Nat → Int} {L : Nat}
theorem k_cmp {N : Nat} {inn : Int32 → Int32 → qMem → Option (Int32 × qMem)} {p1 : Int32} {P : Nat → Nat → Except Nat (EE × Nat × Nat)} (hN : 200000 ≤ N) (hT : okT T L) (hi : okEi T L (inn p1 93) P) (ha : advE (tkM T L) P) : okT2 T L (fX6_readComparison N inn p1) (pCmp (tcS T L) (tvS T L) P) := by
  intro σ i l s h
  have hM := tkM_le T L
  have hL := hT.1
  obtain ⟨ko, ke⟩ := k_sum hN hT hi ha σ i l s h
  have adv := adv_sum (tc := tcS T L) (tv := tvS T L) (n := tkM T L) (fun _ z => tc_0 z) ha
  unfold pCmp
  cases hp : pSum (tcS T L) (tvS T L) P i l with
  | error p =>
    obtain ⟨σ2, e2, t2, r2⟩ := ke p hp
    refine ⟨fun b j l' hb => by simp [bd] at hb, fun p' hb => ?_⟩
    have : p = p' := by simpa [bd] using hb
    subst this
    refine ⟨σ2, ?_, t2, r2⟩
    unfold fX6_readComparison
    rw [e2, Option.bind_some, if_pos rfl]
  | ok x =>
    obtain ⟨a, j, l'⟩ := x
    obtain ⟨σ1, e1, s1, g1, r1⟩ := ko a j l' hp
    have hA := s1.1
    have av := adv i l a j l' hp
    have s6 := h.2.2.2.2.2
    have f60 : fX6_isSign 60 σ1 = some (bI (decide (tcS T L j = 160))) := e_isSign (s := 60) hT hA (by omega) (by omega)
    have f62 : fX6_isSign 62 σ1 = some (bI (decide (tcS T L j = 162))) := e_isSign (s := 62) hT hA (by omega) (by omega)
    have f61 : fX6_isSign 61 σ1 = some (bI (decide (tcS T L j = 161))) := e_isSign (s := 61) hT hA (by omega) (by omega)
    have eF : fX6_readComparison N inn p1 σ = fX6_readComparison_b53 N inn p1 (zI (if tcS T L j = 160 then 6 else if tcS T L j = 162 then 7 else if tcS T L j = 161 then 8 else -1)) σ1 := by
      unfold fX6_readComparison
      simp only [e1, Option.bind_some, f60, f62, f61, if_bI, decide_eq_true_eq]
      rw [if_neg (by decide)]
      by_cases q1 : tcS T L j = 160
      · rw [if_pos q1, if_pos q1]; rfl
      · rw [if_neg q1, if_neg q1]
        by_cases q2 : tcS T L j = 162
        · rw [if_pos q2, if_pos q2]; rfl
        · rw [if_neg q2, if_neg q2]
          by_cases q3 : tcS T L j = 161
          · rw [if_pos q3, if_pos q3]; rfl
          · rw [if_neg q3, if_neg q3]; rfl
    rw [eF]
    show (∀ b' j' l'', (if tcS T L j = 160 ∨ tcS T L j = 162 ∨ tcS T L j = 161 then bd (pSum (tcS T L) (tvS T L) P (j + 1) l') (fun b j2 l2 => .ok (cmpB (if tcS T L j = 160 then 6 else if tcS T L j = 162 then 7 else 8) a b, j2, l2)) else .error j) = .ok (b', j', l'') → _) ∧ (∀ p, (if tcS T L j = 160 ∨ tcS T L j = 162 ∨ tcS T L j = 161 then bd (pSum (tcS T L) (tvS T L) P (j + 1) l') (fun b j2 l2 => .ok (cmpB (if tcS T L j = 160 then 6 else if tcS T L j = 162 then 7 else 8) a b, j2, l2)) else .error j) = .error p → _)
    by_cases q : tcS T L j = 160 ∨ tcS T L j = 162 ∨ tcS T L j = 161
    · rw [if_pos q]
      have hlt : j < tkM T L := tc_0 (by omega)
      have eo : (if tcS T L j = 160 then (6 : Int) else if tcS T L j = 162 then 7 else if tcS T L j = 161 then 8 else -1) = if tcS T L j = 160 then 6 else if tcS T L j = 162 then 7 else 8 := by
        by_cases q1 : tcS T L j = 160
        · rw [if_pos q1, if_pos q1]
        · rw [if_neg q1, if_neg q1]
          by_cases q2 : tcS T L j = 162
          · rw [if_pos q2, if_pos q2]
          · rw [if_neg q2, if_neg q2, if_pos (by omega)]
      rw [eo]
      have ho : (if tcS T L j = 160 then (6 : Int) else if tcS T L j = 162 then 7 else 8) ≠ -1 ∧ 0 ≤ (if tcS T L j = 160 then (6 : Int) else if tcS T L j = 162 then 7 else 8) ∧ (if tcS T L j = 160 then (6 : Int) else if tcS T L j = 162 then 7 else 8) ≤ 8 := by
        split
        · omega
        · split <;> omega
      generalize (if tcS T L j = 160 then (6 : Int) else if tcS T L j = 162 then 7 else 8) = op at *
      have c1 : (zI op = -1) = False := by rw [show (-1 : Int32) = zI (-1) from rfl, zI_eq (by omega) (by omega) (by omega) (by omega)]; exact eq_false (by omega)
      obtain ⟨σ2, e2, s2, g2, r2⟩ := St_next hN hT s1 hlt
      obtain ⟨mo, me⟩ := k_sum hN hT hi ha σ2 (j + 1) l' _ s2
      cases hp2 : pSum (tcS T L) (tvS T L) P (j + 1) l' with
      | error p =>
        obtain ⟨σ3, e3, t3, r3⟩ := me p hp2
        refine ⟨fun b j l' hb => by simp [bd] at hb, fun p' hb => ?_⟩
        have : p = p' := by simpa [bd] using hb
        subst this
        refine ⟨σ3, ?_, t3, frR_trans r1 (frR_trans r2 r3)⟩
        unfold fX6_readComparison_b53
        simp only [c1, if_false]
        rw [e2, Option.bind_some, e3, Option.bind_some, if_pos rfl]
      | ok x =>
        obtain ⟨b, j2, l2⟩ := x
        obtain ⟨σ3, e3, s3, g3, r3⟩ := mo b j2 l2 hp2
        have av2 := adv (j + 1) l' b j2 l2 hp2
        obtain ⟨σ4, e4, s4, g4, r4⟩ := St_add (u := op) (v := 0) hT s3 (by omega)
        refine ⟨fun b' j' l'' hb => ?_, fun p' hb => by simp [bd] at hb⟩
        simp only [bd, Except.ok.injEq, Prod.mk.injEq] at hb
        obtain ⟨p1, p2, p3⟩ := hb
        subst p1 p2 p3
        refine ⟨σ4, ?_, ?_, ?_, frR_trans r1 (frR_trans r2 (frR_trans r3 r4))⟩
        · unfold fX6_readComparison_b53
          simp only [c1, if_false]
          have e4' : fX5_add 78 (zI op) 0 σ3 = some σ4 := e4
          rw [e2, Option.bind_some, e3, Option.bind_some, if_neg (show ¬ ((1 : Int32), σ3).1 = 0 from n10), e4', Option.bind_some]
        · have ll : s + ((cmpB op a b).1 s).length = s + a.1.length + b.1.length + 1 := by
            simp only [cmpB, List.length_append, List.length_cons, List.length_nil]
            omega
          rw [ll]
          exact s4
        · have k1 := grew_trans g1 (c := a.1) (d := []) g2
          have k2 := grew_trans k1 (d := b.1) (by simpa using g3)
          have ll : s + (a.1 ++ [] ++ b.1).length = s + a.1.length + b.1.length := by
            simp only [List.length_append, List.length_nil]
            omega
          have k3 := grew_trans k2 (d := [(op, 0)]) (by rw [ll]; exact g4)
          simpa [cmpB] using k3
    · rw [if_neg q]
      refine ⟨fun b j l' hb => by simp at hb, fun p' hb => ?_⟩
      have : j = p' := by simpa using hb
      subst this
      refine ⟨σ1, ?_, hA.2.2.1, r1⟩
      rw [if_neg (by omega), if_neg (by omega), if_neg (by omega)]
      unfold fX6_readComparison_b53
      rw [if_pos (by rfl)]
theorem k_plainL {N : Nat} {inn : Int32 → Int32 → qMem → Option (Int32 × qMem)} {p1 : Int32} {P : Nat → Nat → Except Nat (EE × Nat × Nat)} {PT : Nat → Nat → Except Nat (BT × Nat × Nat)} (hN : 200000 ≤ N) (hT : okT T L) (hi : okEi T L (inn p1 93) P) (hiT : okBi T L (inn p1 41) PT) (ha : advE (tkM T L) P) (haT : advB (tkM T L) PT) : ∀ (f n c : Nat) (g : Bool) (σ : qMem) (i l s : Nat), 500 ≤ f + i → c ≤ i → L < n + i → St T L i l s σ → s + (if g then 1 else 0) ≤ i →
    (∀ b j l', pPlainL (tcS T L) (tvS T L) P PT f g i l = .ok (b, j, l') → ∃ σ', fX6_readPlain_l4 N inn n p1 (bI g) (zI c) σ = some (1, σ') ∧ St T L j l' (s + (b.1 s).length) σ' ∧ grew s (b.1 s) σ σ' ∧ frR σ σ') ∧ (∀ p, pPlainL (tcS T L) (tvS T L) P PT f g i l = .error p → ∃ σ', fX6_readPlain_l4 N inn n p1 (bI g) (zI c) σ = some (0, σ') ∧ gi σ' 77 4 = zI (tkF T L p) ∧ frR σ σ') := by
  have hM := tkM_le T L
  have hL := hT.1
  intro f
  induction f with
  | zero => intro n c g σ i l s hf hc hn h _; have := h.2.1; omega
  | succ f ih =>
    intro n c g σ i l s hf hc hn h hs
    have hiM := h.2.1
    obtain ⟨n, rfl⟩ : ∃ k, n = k + 1 := ⟨n - 1, by omega⟩
    have hA := h.1
    have g2 := hA.1.2.1
    have f1 : fX6_isWord 6 σ = some (bI (decide (tcS T L i = 7))) := e_isWord hT hA (w := 6) (by omega)
    have c0 : (zI L ≤ zI c) = (L ≤ c) := by rw [zI_le (by omega) (by omega) (by omega) (by omega)]; exact propext (by omega)
    have ef : fX6_readPlain_l4 N inn (n + 1) p1 (bI g) (zI c) σ = if L ≤ c then fX6_readPlain_b41 N inn p1 (bI g) σ else if tcS T L i = 7 then fX6_readPlain_b30 N inn (fX6_readPlain_l4 N inn n) p1 (zI c) (bI (!g)) σ else fX6_readPlain_b41 N inn p1 (bI g) σ := by
      show fX6_readPlain_s4 N inn _ p1 (bI g) (zI c) σ = _
      unfold fX6_readPlain_s4
      simp only [g2, c0, f1, Option.bind_some, if_bI, decide_eq_true_eq]
      cases g <;> rfl
    unfold pPlainL
    by_cases q : tcS T L i = 7
    · have hlt : i < tkM T L := tc_0 (by omega)
      have hge := tkF_ge (T := T) (L := L) (i := i)
      have hfl := tk_lt.mp hlt
      rw [if_neg (by omega), if_pos q] at ef
      rw [if_pos q]
      obtain ⟨σ1, e1, s1, g1, r1⟩ := St_next hN hT h hlt
      have eF : fX6_readPlain_l4 N inn (n + 1) p1 (bI g) (zI c) σ = fX6_readPlain_l4 N inn n p1 (bI (!g)) (zI ((c + 1 : Nat) : Int)) σ1 := by
        rw [ef]
        unfold fX6_readPlain_b30
        rw [e1, Option.bind_some]
        congr 1
        rw [show (1 : Int32) = zI 1 from rfl, zI_add]
        rfl
      rw [eF]
      have s6 := h.2.2.2.2.2
      obtain ⟨io, ie⟩ := ih n (c + 1) (!g) σ1 (i + 1) l s (by omega) (by omega) (by omega) s1 (by cases g <;> simp <;> omega)
      refine ⟨fun b' j' l'' hb => ?_, fun p hb => ?_⟩
      · obtain ⟨σ', e4, s4, g4, r4⟩ := io b' j' l'' hb
        have := grew_trans g1 (c := []) (d := b'.1 s) g4
        exact ⟨σ', e4, s4, by simpa using this, frR_trans r1 r4⟩
      · obtain ⟨σ', e4, t4, r4⟩ := ie p hb
        exact ⟨σ', e4, t4, frR_trans r1 r4⟩
    · rw [if_neg q] at ef
      have ef' : fX6_readPlain_l4 N inn (n + 1) p1 (bI g) (zI c) σ = fX6_readPlain_b41 N inn p1 (bI g) σ := by rw [ef]; split <;> rfl
      rw [ef', if_neg q]
      have f40 : fX6_isSign 40 σ = some (bI (decide (tcS T L i = 140))) := e_isSign (s := 40) hT hA (by omega) (by omega)
      have e41 : fX6_readPlain_b41 N inn p1 (bI g) σ = (if tcS T L i = 140 then inn p1 41 σ else fX6_readComparison N inn p1 σ).bind fun y => fX6_readPlain_b65 N inn (bI g) y.1 y.2 := by
        unfold fX6_readPlain_b41
        simp only [f40, Option.bind_some, if_bI, decide_eq_true_eq]
        split <;> rfl
      rw [e41]
      have key : (∀ a j l', (if tcS T L i = 140 then PT i l else pCmp (tcS T L) (tvS T L) P i l) = .ok (a, j, l') → ∃ σ', (if tcS T L i = 140 then inn p1 41 σ else fX6_readComparison N inn p1 σ) = some (1, σ') ∧ St T L j l' (s + (a.1 s).length) σ' ∧ grew s (a.1 s) σ σ' ∧ frR σ σ' ∧ (a.1 s).length ≤ j - i ∧ i < j) ∧ (∀ p, (if tcS T L i = 140 then PT i l else pCmp (tcS T L) (tvS T L) P i l) = .error p → ∃ σ', (if tcS T L i = 140 then inn p1 41 σ else fX6_readComparison N inn p1 σ) = some (0, σ') ∧ gi σ' 77 4 = zI (tkF T L p) ∧ frR σ σ') := by
        by_cases q4 : tcS T L i = 140
        · simp only [if_pos q4]
          obtain ⟨o, e⟩ := hiT σ i l s q4 h
          refine ⟨fun a j l' hp => ?_, e⟩
          obtain ⟨σ', e1, e2, e3, e4⟩ := o a j l' hp
          exact ⟨σ', e1, e2, e3, e4, (haT i l a j l' hp).2.2 s, (haT i l a j l' hp).1⟩
        · simp only [if_neg q4]
          obtain ⟨o, e⟩ := k_cmp hN hT hi ha σ i l s h
          have adv := adv_cmp (tc := tcS T L) (tv := tvS T L) (n := tkM T L) (fun _ z => tc_0 z) ha
          refine ⟨fun a j l' hp => ?_, e⟩
          obtain ⟨σ', e1, e2, e3, e4⟩ := o a j l' hp
          exact ⟨σ', e1, e2, e3, e4, (adv i l a j l' hp).2.2 s, (adv i l a j l' hp).1⟩
      obtain ⟨ko, ke⟩ := key
      cases hp : (if tcS T L i = 140 then PT i l else pCmp (tcS T L) (tvS T L) P i l) with
      | error p =>
        obtain ⟨σ2, e2, t2, r2⟩ := ke p hp
        refine ⟨fun b j l' hb => by simp [bd] at hb, fun p' hb => ?_⟩
        have : p = p' := by simpa [bd] using hb
        subst this
        refine ⟨σ2, ?_, t2, r2⟩
        rw [e2, Option.bind_some]
        show fX6_readPlain_b65 N inn (bI g) 0 σ2 = _
        unfold fX6_readPlain_b65
        rw [if_pos rfl, if_pos (Or.inl rfl)]
      | ok x =>
        obtain ⟨a, j, l'⟩ := x
        obtain ⟨σ2, e2, s2, g2, r2, len, hij⟩ := ko a j l' hp
        refine ⟨fun b' j' l'' hb => ?_, fun p' hb => by simp [bd] at hb⟩
        simp only [bd, Except.ok.injEq, Prod.mk.injEq] at hb
        obtain ⟨p1, p2, p3⟩ := hb
        subst p1 p2 p3
        rw [e2, Option.bind_some]
        cases g with
        | false =>
          refine ⟨σ2, ?_, s2, g2, r2⟩
          show fX6_readPlain_b65 N inn _ 1 σ2 = _
          unfold fX6_readPlain_b65
          rw [if_neg (by decide), bI_f, if_pos rfl, if_pos (Or.inr rfl)]
        | true =>
          simp only [if_true] at hs
          obtain ⟨σ3, e3, s3, g3, r3⟩ := St_add (u := 9) (v := 0) hT s2 (by omega)
          refine ⟨σ3, ?_, ?_, ?_, frR_trans r2 r3⟩
          · show fX6_readPlain_b65 N inn _ 1 σ2 = _
            unfold fX6_readPlain_b65
            have e3' : fX5_add 78 9 0 σ2 = some σ3 := e3
            rw [if_neg (by decide), bI_t, if_neg (by decide), e3', Option.bind_some, if_pos (Or.inr rfl)]
          · have ll : s + ((notB a).1 s).length = s + (a.1 s).length + 1 := by
              simp only [notB, List.length_append, List.length_cons, List.length_nil]
              omega
            rw [if_pos rfl, ll]
            exact s3
          · rw [if_pos rfl]
            exact grew_trans g2 g3
theorem k_plain {N : Nat} {inn : Int32 → Int32 → qMem → Option (Int32 × qMem)} {p1 : Int32} {P : Nat → Nat → Except Nat (EE × Nat × Nat)} {PT : Nat → Nat → Except Nat (BT × Nat × Nat)} (hN : 200000 ≤ N) (hT : okT T L) (hi : okEi T L (inn p1 93) P) (hiT : okBi T L (inn p1 41) PT) (ha : advE (tkM T L) P) (haT : advB (tkM T L) PT) : okT2 T L (fX6_readPlain N inn p1) (pPlain (tcS T L) (tvS T L) P PT) := by
  intro σ i l s h
  have hM := tkM_le T L
  have hL := hT.1
  have s6 := h.2.2.2.2.2
  exact k_plainL hN hT hi hiT ha haT 500 N 0 false σ i l s (by omega) (by omega) (by omega) h (by simp; omega)
theorem e_lead {σ0 σ : qMem} {i l s : Nat} {o : Int} {d : List (Int × Int)} (hT : okT T L) (h : St T L i l (s + 1 + d.length) σ) (g : grew s ([(o, 0)] ++ d) σ0 σ) : ∃ σ', fX5_leadHere 78 (zI s) σ = some σ' ∧ St T L i l (s + 1 + d.length) σ' ∧ grew s ([(o, ((s + 1 + d.length : Nat) : Int))] ++ d) σ0 σ' ∧ frR σ σ' := by
  have hM := tkM_le T L
  have hL := hT.1
  obtain ⟨h1, h2, h3, h4, h5, h6⟩ := h
  unfold fX5_leadHere
  have c1 : (zI s < 0) = False := by rw [show (0 : Int32) = zI 0 from rfl, zI_lt (by omega) (by omega) (by omega) (by omega)]; exact eq_false (by omega)
  have c2 : (zI ((s + 1 + d.length : Nat) : Int) ≤ zI s) = False := by rw [zI_le (by omega) (by omega) (by omega) (by omega)]; exact eq_false (by omega)
  have k0 : (ck (zI s) 400 = true) = True := zI_ckT (by omega) (by omega) (by omega)
  have z0 : (zI s).toNatClampNeg = s := by rw [zI_clamp (by omega) (by omega)]; omega
  simp only [h5, c1, c2, k0, z0, if_false, if_true, nmM]
  have f : ∀ k j, ¬ (k = 82 ∧ j = s) → gi (si σ (78 + 4) s (zI ((s + 1 + d.length : Nat) : Int))) k j = gi σ k j := fun k j hk => by rw [gi_si, if_neg (by omega)]
  refine ⟨_, rfl, ⟨atK_fr h1 (fun k j hk => f k j (by omega)), h2, (f _ _ (by omega)).trans h3, h4, (f _ _ (by omega)).trans h5, h6⟩, ⟨fun j hj => ?_, fun k x hk => ?_⟩, fun k j hk => f k j (by omega)⟩
  · have := g.1 j hj
    exact ⟨(f _ _ (by omega)).trans this.1, (f _ _ (by omega)).trans this.2⟩
  · rcases k with _ | k
    · rw [show ([(o, ((s + 1 + d.length : Nat) : Int))] ++ d)[0]? = some (o, ((s + 1 + d.length : Nat) : Int)) from rfl] at hk
      have hk' := Option.some.inj hk
      subst hk'
      have := g.2 0 (o, 0) (by simp)
      exact ⟨(f _ _ (by omega)).trans this.1, by rw [gi_si, if_pos ⟨rfl, rfl⟩]⟩
    · have := g.2 (k + 1) x (by simpa using hk)
      exact ⟨(f _ _ (by omega)).trans this.1, (f _ _ (by omega)).trans this.2⟩
theorem k_bothL {N : Nat} {inn : Int32 → Int32 → qMem → Option (Int32 × qMem)} {p1 : Int32} {P : Nat → Nat → Except Nat (EE × Nat × Nat)} {PT : Nat → Nat → Except Nat (BT × Nat × Nat)} (hN : 200000 ≤ N) (hT : okT T L) (hi : okEi T L (inn p1 93) P) (hiT : okBi T L (inn p1 41) PT) (ha : advE (tkM T L) P) (haT : advB (tkM T L) PT) : ∀ (f n c : Nat) (a : BT) (σ : qMem) (i l s0 : Nat), 500 ≤ f + i → c ≤ i → L < n + i → St T L i l (s0 + (a.1 s0).length) σ →
    (∀ b j l', pBothL (tcS T L) (tvS T L) P PT f a i l = .ok (b, j, l') → ∃ σ' r, fX6_readBoth_l12 N inn n p1 (zI c) σ = some (1, σ') ∧ b.1 s0 = a.1 s0 ++ r ∧ St T L j l' (s0 + (a.1 s0).length + r.length) σ' ∧ grew (s0 + (a.1 s0).length) r σ σ' ∧ frR σ σ') ∧ (∀ p, pBothL (tcS T L) (tvS T L) P PT f a i l = .error p → ∃ σ', fX6_readBoth_l12 N inn n p1 (zI c) σ = some (0, σ') ∧ gi σ' 77 4 = zI (tkF T L p) ∧ frR σ σ') := by
  have hM := tkM_le T L
  have hL := hT.1
  intro f
  induction f with
  | zero => intro n c a σ i l s0 hf hc hn h; have := h.2.1; omega
  | succ f ih =>
    intro n c a σ i l s0 hf hc hn h
    have hiM := h.2.1
    obtain ⟨n, rfl⟩ : ∃ k, n = k + 1 := ⟨n - 1, by omega⟩
    have hA := h.1
    have g2 := hA.1.2.1
    have g5 := h.2.2.2.2.1
    have s6 := h.2.2.2.2.2
    have f1 : fX6_isWord 5 σ = some (bI (decide (tcS T L i = 6))) := e_isWord hT hA (w := 5) (by omega)
    have c0 : (zI L ≤ zI c) = (L ≤ c) := by rw [zI_le (by omega) (by omega) (by omega) (by omega)]; exact propext (by omega)
    have ef : fX6_readBoth_l12 N inn (n + 1) p1 (zI c) σ = if L ≤ c then some (1, σ) else if tcS T L i = 6 then ((fX5_add 78 11 0 σ).bind fun y3 => ((fX6_move N y3).bind fun y4 => ((fX6_readPlain N inn p1 y4).bind fun y5 => (if y5.1 = 0 then (some (0, y5.2)) else ((fX5_leadHere 78 (gi σ 78 5) y5.2).bind fun y6 => (fX6_readBoth_l12 N inn n p1 (zI c + 1) y6)))))) else some (1, σ) := by
      show fX6_readBoth_s12 N inn _ p1 (zI c) σ = _
      unfold fX6_readBoth_s12
      simp only [g2, c0, f1, Option.bind_some, if_bI, decide_eq_true_eq]
    unfold pBothL
    by_cases q : tcS T L i = 6
    · have hlt : i < tkM T L := tc_0 (by omega)
      have hge := tkF_ge (T := T) (L := L) (i := i)
      have hfl := tk_lt.mp hlt
      rw [if_neg (by omega), if_pos q] at ef
      rw [if_pos q]
      obtain ⟨σ0, e0, a0, gr0, f0⟩ := e_add5 (u := 11) (v := 0) g5 (by omega)
      have at0 : atK T L i σ0 := atK_fr hA (fun k j hk => f0 k j (by omega))
      obtain ⟨σ1, e1, at1, f1'⟩ := e_next hN hT at0
      have s1 : St T L (i + 1) l (s0 + (a.1 s0).length + 1) σ1 := ⟨at1, by omega, by rw [f1' _ _ (by omega), f0 _ _ (by omega)]; exact h.2.2.1, h.2.2.2.1, (f1' _ _ (by omega)).trans a0, by omega⟩
      have gr1 : grew (s0 + (a.1 s0).length) [(11, 0)] σ σ1 := by
        have := grew_trans gr0 (d := []) (grew_same (fun j _ => ⟨f1' 81 j (by omega), f1' 82 j (by omega)⟩))
        simpa using this
      have r1 : frR σ σ1 := fun k j hk => by rw [f1' _ _ (by omega), f0 _ _ (by omega)]
      obtain ⟨ko, ke⟩ := k_plain hN hT hi hiT ha haT σ1 (i + 1) l _ s1
      have adv := adv_plain (tc := tcS T L) (tv := tvS T L) (n := tkM T L) (fun _ z => tc_0 z) ha haT (i + 1) l
      have e0' : fX5_add 78 11 0 σ = some σ0 := e0
      rw [e0', Option.bind_some, e1, Option.bind_some] at ef
      cases hp : pPlain (tcS T L) (tvS T L) P PT (i + 1) l with
      | error p =>
        obtain ⟨σ2, e2, t2, r2⟩ := ke p hp
        refine ⟨fun b j l' hb => by simp [bd] at hb, fun p' hb => ?_⟩
        have : p = p' := by simpa [bd] using hb
        subst this
        refine ⟨σ2, ?_, t2, frR_trans r1 r2⟩
        rw [ef, e2, Option.bind_some, if_pos rfl]
      | ok x =>
        obtain ⟨b, j, l'⟩ := x
        obtain ⟨σ2, e2, s2, g2', r2⟩ := ko b j l' hp
        have av := adv b j l' hp
        have gr2 := grew_trans gr1 (d := b.1 (s0 + (a.1 s0).length + 1)) g2'
        obtain ⟨σ3, e3, s3, g3, r3⟩ := e_lead hT s2 gr2
        have eF : fX6_readBoth_l12 N inn (n + 1) p1 (zI c) σ = fX6_readBoth_l12 N inn n p1 (zI ((c + 1 : Nat) : Int)) σ3 := by
          rw [ef, e2, Option.bind_some, if_neg (show ¬ ((1 : Int32), σ2).1 = 0 from n10), g5, e3, Option.bind_some]
          congr 1
          rw [show (1 : Int32) = zI 1 from rfl, zI_add]
          rfl
        rw [eF]
        show (∀ b' j' l'', pBothL (tcS T L) (tvS T L) P PT f (andB a b) j l' = .ok (b', j', l'') → _) ∧ (∀ p, pBothL (tcS T L) (tvS T L) P PT f (andB a b) j l' = .error p → _)
        have ej : (andB a b).1 s0 = a.1 s0 ++ ([(11, ((s0 + (a.1 s0).length + 1 + (b.1 (s0 + (a.1 s0).length + 1)).length : Nat) : Int))] ++ b.1 (s0 + (a.1 s0).length + 1)) := by
          show jmpB 11 a b s0 = _
          unfold jmpB
          rw [List.append_assoc]
        have el : s0 + ((andB a b).1 s0).length = s0 + (a.1 s0).length + 1 + (b.1 (s0 + (a.1 s0).length + 1)).length := by
          rw [ej]
          simp only [List.length_append, List.length_cons, List.length_nil]
          omega
        obtain ⟨io, ie⟩ := ih n (c + 1) (andB a b) σ3 j l' s0 (by omega) (by omega) (by omega) (by rw [el]; exact s3)
        refine ⟨fun b' j' l'' hb => ?_, fun p hb => ?_⟩
        · obtain ⟨σ', r, e4, e5, s4, g4, r4⟩ := io b' j' l'' hb
          rw [el] at s4 g4
          refine ⟨σ', ([(11, ((s0 + (a.1 s0).length + 1 + (b.1 (s0 + (a.1 s0).length + 1)).length : Nat) : Int))] ++ b.1 (s0 + (a.1 s0).length + 1)) ++ r, e4, ?_, ?_, grew_trans g3 ?_, frR_trans (frR_trans r1 r2) (frR_trans r3 r4)⟩
          · rw [e5, ej, List.append_assoc]
          · have ll : s0 + (a.1 s0).length + (([(11, ((s0 + (a.1 s0).length + 1 + (b.1 (s0 + (a.1 s0).length + 1)).length : Nat) : Int))] ++ b.1 (s0 + (a.1 s0).length + 1)) ++ r).length = s0 + (a.1 s0).length + 1 + (b.1 (s0 + (a.1 s0).length + 1)).length + r.length := by
              simp only [List.length_append, List.length_cons, List.length_nil]
              omega
            rw [ll]
            exact s4
          · have ll : s0 + (a.1 s0).length + ([(11, ((s0 + (a.1 s0).length + 1 + (b.1 (s0 + (a.1 s0).length + 1)).length : Nat) : Int))] ++ b.1 (s0 + (a.1 s0).length + 1)).length = s0 + (a.1 s0).length + 1 + (b.1 (s0 + (a.1 s0).length + 1)).length := by
              simp only [List.length_append, List.length_cons, List.length_nil]
              omega
            rw [ll]
            exact g4
        · obtain ⟨σ', e4, t4, r4⟩ := ie p hb
          exact ⟨σ', e4, t4, frR_trans (frR_trans r1 r2) (frR_trans r3 r4)⟩
    · rw [if_neg q] at ef
      have ef' : fX6_readBoth_l12 N inn (n + 1) p1 (zI c) σ = some (1, σ) := by rw [ef]; split <;> rfl
      rw [if_neg q]
      refine ⟨fun b j l' hb => ?_, fun p hb => by simp at hb⟩
      simp only [Except.ok.injEq, Prod.mk.injEq] at hb
      obtain ⟨p1, p2, p3⟩ := hb
      subst p1 p2 p3
      exact ⟨σ, [], ef', by simp, by simpa using h, grew_nil _ σ, frR_refl σ⟩
theorem k_both {N : Nat} {inn : Int32 → Int32 → qMem → Option (Int32 × qMem)} {p1 : Int32} {P : Nat → Nat → Except Nat (EE × Nat × Nat)} {PT : Nat → Nat → Except Nat (BT × Nat × Nat)} (hN : 200000 ≤ N) (hT : okT T L) (hi : okEi T L (inn p1 93) P) (hiT : okBi T L (inn p1 41) PT) (ha : advE (tkM T L) P) (haT : advB (tkM T L) PT) : okT2 T L (fX6_readBoth N inn p1) (pBoth (tcS T L) (tvS T L) P PT) := by
  intro σ i l s h
  have hM := tkM_le T L
  have hL := hT.1
  obtain ⟨ko, ke⟩ := k_plain hN hT hi hiT ha haT σ i l s h
  unfold pBoth
  cases hp : pPlain (tcS T L) (tvS T L) P PT i l with
  | error p =>
    obtain ⟨σ2, e2, t2, r2⟩ := ke p hp
    refine ⟨fun b j l' hb => by simp [bd] at hb, fun p' hb => ?_⟩
    have : p = p' := by simpa [bd] using hb
    subst this
    refine ⟨σ2, ?_, t2, r2⟩
    unfold fX6_readBoth
    rw [e2, Option.bind_some, if_pos rfl]
  | ok x =>
    obtain ⟨b, j, l'⟩ := x
    obtain ⟨σ2, e2, s2, g2, r2⟩ := ko b j l' hp
    have eF : fX6_readBoth N inn p1 σ = fX6_readBoth_l12 N inn N p1 (zI (0 : Nat)) σ2 := by
      unfold fX6_readBoth
      rw [e2, Option.bind_some, if_neg (show ¬ ((1 : Int32), σ2).1 = 0 from n10)]
      rfl
    rw [eF]
    show (∀ b' j' l'', pBothL (tcS T L) (tvS T L) P PT 500 b j l' = .ok (b', j', l'') → _) ∧ (∀ p, pBothL (tcS T L) (tvS T L) P PT 500 b j l' = .error p → _)
    obtain ⟨io, ie⟩ := k_bothL hN hT hi hiT ha haT 500 N 0 b σ2 j l' s (by omega) (by omega) (by omega) s2
    refine ⟨fun b' j' l'' hb => ?_, fun p hb => ?_⟩
    · obtain ⟨σ', r, e4, e5, s4, g4, r4⟩ := io b' j' l'' hb
      refine ⟨σ', e4, ?_, ?_, frR_trans r2 r4⟩
      · rw [e5, List.length_append, ← Nat.add_assoc]; exact s4
      · rw [e5]; exact grew_trans g2 g4
    · obtain ⟨σ', e4, t4, r4⟩ := ie p hb
      exact ⟨σ', e4, t4, frR_trans r2 r4⟩
theorem k_testL {N : Nat} {inn : Int32 → Int32 → qMem → Option (Int32 × qMem)} {p1 : Int32} {P : Nat → Nat → Except Nat (EE × Nat × Nat)} {PT : Nat → Nat → Except Nat (BT × Nat × Nat)} (hN : 200000 ≤ N) (hT : okT T L) (hi : okEi T L (inn p1 93) P) (hiT : okBi T L (inn p1 41) PT) (ha : advE (tkM T L) P) (haT : advB (tkM T L) PT) : ∀ (f n c : Nat) (a : BT) (σ : qMem) (i l s0 : Nat), 500 ≤ f + i → c ≤ i → L < n + i → St T L i l (s0 + (a.1 s0).length) σ →
    (∀ b j l', pTestL (tcS T L) (tvS T L) P PT f a i l = .ok (b, j, l') → ∃ σ' r, fX6_readTest_l12 N inn n p1 (zI c) σ = some (1, σ') ∧ b.1 s0 = a.1 s0 ++ r ∧ St T L j l' (s0 + (a.1 s0).length + r.length) σ' ∧ grew (s0 + (a.1 s0).length) r σ σ' ∧ frR σ σ') ∧ (∀ p, pTestL (tcS T L) (tvS T L) P PT f a i l = .error p → ∃ σ', fX6_readTest_l12 N inn n p1 (zI c) σ = some (0, σ') ∧ gi σ' 77 4 = zI (tkF T L p) ∧ frR σ σ') := by
  have hM := tkM_le T L
  have hL := hT.1
  intro f
  induction f with
  | zero => intro n c a σ i l s0 hf hc hn h; have := h.2.1; omega
  | succ f ih =>
    intro n c a σ i l s0 hf hc hn h
    have hiM := h.2.1
    obtain ⟨n, rfl⟩ : ∃ k, n = k + 1 := ⟨n - 1, by omega⟩
    have hA := h.1
    have g2 := hA.1.2.1
    have g5 := h.2.2.2.2.1
    have s6 := h.2.2.2.2.2
    have f1 : fX6_isWord 4 σ = some (bI (decide (tcS T L i = 5))) := e_isWord hT hA (w := 4) (by omega)
    have c0 : (zI L ≤ zI c) = (L ≤ c) := by rw [zI_le (by omega) (by omega) (by omega) (by omega)]; exact propext (by omega)
    have ef : fX6_readTest_l12 N inn (n + 1) p1 (zI c) σ = if L ≤ c then some (1, σ) else if tcS T L i = 5 then ((fX5_add 78 10 0 σ).bind fun y3 => ((fX6_move N y3).bind fun y4 => ((fX6_readBoth N inn p1 y4).bind fun y5 => (if y5.1 = 0 then (some (0, y5.2)) else ((fX5_leadHere 78 (gi σ 78 5) y5.2).bind fun y6 => (fX6_readTest_l12 N inn n p1 (zI c + 1) y6)))))) else some (1, σ) := by
      show fX6_readTest_s12 N inn _ p1 (zI c) σ = _
      unfold fX6_readTest_s12
      simp only [g2, c0, f1, Option.bind_some, if_bI, decide_eq_true_eq]
    unfold pTestL
    by_cases q : tcS T L i = 5
    · have hlt : i < tkM T L := tc_0 (by omega)
      have hge := tkF_ge (T := T) (L := L) (i := i)
      have hfl := tk_lt.mp hlt
      rw [if_neg (by omega), if_pos q] at ef
      rw [if_pos q]
      obtain ⟨σ0, e0, a0, gr0, f0⟩ := e_add5 (u := 10) (v := 0) g5 (by omega)
      have at0 : atK T L i σ0 := atK_fr hA (fun k j hk => f0 k j (by omega))
      obtain ⟨σ1, e1, at1, f1'⟩ := e_next hN hT at0
      have s1 : St T L (i + 1) l (s0 + (a.1 s0).length + 1) σ1 := ⟨at1, by omega, by rw [f1' _ _ (by omega), f0 _ _ (by omega)]; exact h.2.2.1, h.2.2.2.1, (f1' _ _ (by omega)).trans a0, by omega⟩
      have gr1 : grew (s0 + (a.1 s0).length) [(10, 0)] σ σ1 := by
        have := grew_trans gr0 (d := []) (grew_same (fun j _ => ⟨f1' 81 j (by omega), f1' 82 j (by omega)⟩))
        simpa using this
      have r1 : frR σ σ1 := fun k j hk => by rw [f1' _ _ (by omega), f0 _ _ (by omega)]
      obtain ⟨ko, ke⟩ := k_both hN hT hi hiT ha haT σ1 (i + 1) l _ s1
      have adv := adv_both (tc := tcS T L) (tv := tvS T L) (n := tkM T L) (fun _ z => tc_0 z) ha haT (i + 1) l
      have e0' : fX5_add 78 10 0 σ = some σ0 := e0
      rw [e0', Option.bind_some, e1, Option.bind_some] at ef
      cases hp : pBoth (tcS T L) (tvS T L) P PT (i + 1) l with
      | error p =>
        obtain ⟨σ2, e2, t2, r2⟩ := ke p hp
        refine ⟨fun b j l' hb => by simp [bd] at hb, fun p' hb => ?_⟩
        have : p = p' := by simpa [bd] using hb
        subst this
        refine ⟨σ2, ?_, t2, frR_trans r1 r2⟩
        rw [ef, e2, Option.bind_some, if_pos rfl]
      | ok x =>
        obtain ⟨b, j, l'⟩ := x
        obtain ⟨σ2, e2, s2, g2', r2⟩ := ko b j l' hp
        have av := adv b j l' hp
        have gr2 := grew_trans gr1 (d := b.1 (s0 + (a.1 s0).length + 1)) g2'
        obtain ⟨σ3, e3, s3, g3, r3⟩ := e_lead hT s2 gr2
        have eF : fX6_readTest_l12 N inn (n + 1) p1 (zI c) σ = fX6_readTest_l12 N inn n p1 (zI ((c + 1 : Nat) : Int)) σ3 := by
          rw [ef, e2, Option.bind_some, if_neg (show ¬ ((1 : Int32), σ2).1 = 0 from n10), g5, e3, Option.bind_some]
          congr 1
          rw [show (1 : Int32) = zI 1 from rfl, zI_add]
          rfl
        rw [eF]
        show (∀ b' j' l'', pTestL (tcS T L) (tvS T L) P PT f (orB a b) j l' = .ok (b', j', l'') → _) ∧ (∀ p, pTestL (tcS T L) (tvS T L) P PT f (orB a b) j l' = .error p → _)
        have ej : (orB a b).1 s0 = a.1 s0 ++ ([(10, ((s0 + (a.1 s0).length + 1 + (b.1 (s0 + (a.1 s0).length + 1)).length : Nat) : Int))] ++ b.1 (s0 + (a.1 s0).length + 1)) := by
          show jmpB 10 a b s0 = _
          unfold jmpB
          rw [List.append_assoc]
        have el : s0 + ((orB a b).1 s0).length = s0 + (a.1 s0).length + 1 + (b.1 (s0 + (a.1 s0).length + 1)).length := by
          rw [ej]
          simp only [List.length_append, List.length_cons, List.length_nil]
          omega
        obtain ⟨io, ie⟩ := ih n (c + 1) (orB a b) σ3 j l' s0 (by omega) (by omega) (by omega) (by rw [el]; exact s3)
        refine ⟨fun b' j' l'' hb => ?_, fun p hb => ?_⟩
        · obtain ⟨σ', r, e4, e5, s4, g4, r4⟩ := io b' j' l'' hb
          rw [el] at s4 g4
          refine ⟨σ', ([(10, ((s0 + (a.1 s0).length + 1 + (b.1 (s0 + (a.1 s0).length + 1)).length : Nat) : Int))] ++ b.1 (s0 + (a.1 s0).length + 1)) ++ r, e4, ?_, ?_, grew_trans g3 ?_, frR_trans (frR_trans r1 r2) (frR_trans r3 r4)⟩
          · rw [e5, ej, List.append_assoc]
          · have ll : s0 + (a.1 s0).length + (([(10, ((s0 + (a.1 s0).length + 1 + (b.1 (s0 + (a.1 s0).length + 1)).length : Nat) : Int))] ++ b.1 (s0 + (a.1 s0).length + 1)) ++ r).length = s0 + (a.1 s0).length + 1 + (b.1 (s0 + (a.1 s0).length + 1)).length + r.length := by
              simp only [List.length_append, List.length_cons, List.length_nil]
              omega
            rw [ll]
            exact s4
          · have ll : s0 + (a.1 s0).length + ([(10, ((s0 + (a.1 s0).length + 1 + (b.1 (s0 + (a.1 s0).length + 1)).length : Nat) : Int))] ++ b.1 (s0 + (a.1 s0).length + 1)).length = s0 + (a.1 s0).length + 1 + (b.1 (s0 + (a.1 s0).length + 1)).length := by
              simp only [List.length_append, List.length_cons, List.length_nil]
              omega
            rw [ll]
            exact g4
        · obtain ⟨σ', e4, t4, r4⟩ := ie p hb
          exact ⟨σ', e4, t4, frR_trans (frR_trans r1 r2) (frR_trans r3 r4)⟩
    · rw [if_neg q] at ef
      have ef' : fX6_readTest_l12 N inn (n + 1) p1 (zI c) σ = some (1, σ) := by rw [ef]; split <;> rfl
      rw [if_neg q]
      refine ⟨fun b j l' hb => ?_, fun p hb => by simp at hb⟩
      simp only [Except.ok.injEq, Prod.mk.injEq] at hb
      obtain ⟨p1, p2, p3⟩ := hb
      subst p1 p2 p3
      exact ⟨σ, [], ef', by simp, by simpa using h, grew_nil _ σ, frR_refl σ⟩
theorem k_test {N : Nat} {inn : Int32 → Int32 → qMem → Option (Int32 × qMem)} {p1 : Int32} {P : Nat → Nat → Except Nat (EE × Nat × Nat)} {PT : Nat → Nat → Except Nat (BT × Nat × Nat)} (hN : 200000 ≤ N) (hT : okT T L) (hi : okEi T L (inn p1 93) P) (hiT : okBi T L (inn p1 41) PT) (ha : advE (tkM T L) P) (haT : advB (tkM T L) PT) : okT2 T L (fX6_readTest N inn p1) (pTest (tcS T L) (tvS T L) P PT) := by
  intro σ i l s h
  have hM := tkM_le T L
  have hL := hT.1
  obtain ⟨ko, ke⟩ := k_both hN hT hi hiT ha haT σ i l s h
  unfold pTest
  cases hp : pBoth (tcS T L) (tvS T L) P PT i l with
  | error p =>
    obtain ⟨σ2, e2, t2, r2⟩ := ke p hp
    refine ⟨fun b j l' hb => by simp [bd] at hb, fun p' hb => ?_⟩
    have : p = p' := by simpa [bd] using hb
    subst this
    refine ⟨σ2, ?_, t2, r2⟩
    unfold fX6_readTest
    rw [e2, Option.bind_some, if_pos rfl]
  | ok x =>
    obtain ⟨b, j, l'⟩ := x
    obtain ⟨σ2, e2, s2, g2, r2⟩ := ko b j l' hp
    have eF : fX6_readTest N inn p1 σ = fX6_readTest_l12 N inn N p1 (zI (0 : Nat)) σ2 := by
      unfold fX6_readTest
      rw [e2, Option.bind_some, if_neg (show ¬ ((1 : Int32), σ2).1 = 0 from n10)]
      rfl
    rw [eF]
    show (∀ b' j' l'', pTestL (tcS T L) (tvS T L) P PT 500 b j l' = .ok (b', j', l'') → _) ∧ (∀ p, pTestL (tcS T L) (tvS T L) P PT 500 b j l' = .error p → _)
    obtain ⟨io, ie⟩ := k_testL hN hT hi hiT ha haT 500 N 0 b σ2 j l' s (by omega) (by omega) (by omega) s2
    refine ⟨fun b' j' l'' hb => ?_, fun p hb => ?_⟩
    · obtain ⟨σ', r, e4, e5, s4, g4, r4⟩ := io b' j' l'' hb
      refine ⟨σ', e4, ?_, ?_, frR_trans r2 r4⟩
      · rw [e5, List.length_append, ← Nat.add_assoc]; exact s4
      · rw [e5]; exact grew_trans g2 g4
    · obtain ⟨σ', e4, t4, r4⟩ := ie p hb
      exact ⟨σ', e4, t4, frR_trans r2 r4⟩
theorem k_close {N : Nat} {inn : Int32 → Int32 → qMem → Option (Int32 × qMem)} {σ : qMem} {i l s : Nat} {c : Int} (hN : 200000 ≤ N) (hT : okT T L) (hc : 1 ≤ c) (hc2 : c ≤ 255) (h : St T L i l s σ) :
    (tcS T L i = 100 + c → ∃ σ', fX6_readInner_b35 N inn (zI c) 1 σ = some (1, σ') ∧ St T L (i + 1) l s σ' ∧ grew s [] σ σ' ∧ frR σ σ') ∧ (tcS T L i ≠ 100 + c → fX6_readInner_b35 N inn (zI c) 1 σ = some (0, σ)) := by
  unfold fX6_readInner_b35
  rw [if_neg (by decide), e_isSign hT h.1 (by omega) hc2, Option.bind_some, if_bI]
  refine ⟨fun q => ?_, fun q => ?_⟩
  · obtain ⟨σ', e, s1, g1, r1⟩ := St_next hN hT h (tc_0 (by omega))
    exact ⟨σ', by rw [decide_eq_true q, if_pos rfl, e, Option.bind_some], s1, g1, r1⟩
  · rw [decide_eq_false q, if_neg (c := false = true) (by decide)]
theorem k_inner {N : Nat} (hN : 200000 ≤ N) (hT : okT T L) : ∀ (d D deep : Nat), deep + d = 8 → d < D → okEi T L (fX6_readInner N D (zI deep) 93) (pIn (tcS T L) (tvS T L) d) ∧ okBi T L (fX6_readInner N D (zI deep) 41) (pInT (tcS T L) (tvS T L) d) := by
  intro d
  induction d with
  | zero =>
    intro D deep hd hD
    obtain ⟨D, rfl⟩ : ∃ k, D = k + 1 := ⟨D - 1, by omega⟩
    have e : ∀ p2 σ, fX6_readInner N (D + 1) (zI deep) p2 σ = some (0, σ) := fun p2 σ => by
      show fX6_readInner_e N _ (zI deep) p2 σ = _
      unfold fX6_readInner_e
      have c : (zI deep < 8) = False := by rw [show (8 : Int32) = zI 8 from rfl, zI_lt (by omega) (by omega) (by omega) (by omega)]; exact eq_false (by omega)
      simp only [c, if_false]
    refine ⟨fun σ i l s _ h => ⟨fun a j l' hp => by simp [pIn] at hp, fun p hp => ?_⟩, fun σ i l s _ h => ⟨fun a j l' hp => by simp [pInT] at hp, fun p hp => ?_⟩⟩
    · have : i = p := by simpa [pIn] using hp
      subst this
      exact ⟨σ, e _ _, h.1.2.2.1, frR_refl σ⟩
    · have : i = p := by simpa [pInT] using hp
      subst this
      exact ⟨σ, e _ _, h.1.2.2.1, frR_refl σ⟩
  | succ d ih =>
    intro D deep hd hD
    obtain ⟨D, rfl⟩ : ∃ k, D = k + 1 := ⟨D - 1, by omega⟩
    obtain ⟨iE, iB⟩ := ih D (deep + 1) (by omega) (by omega)
    have aE := adv_in (tc := tcS T L) (tv := tvS T L) (n := tkM T L) (fun _ z => tc_0 z) d
    have aB := adv_inT (tc := tcS T L) (tv := tvS T L) (n := tkM T L) (fun _ z => tc_0 z) d
    have c : (zI deep < 8) = True := by rw [show (8 : Int32) = zI 8 from rfl, zI_lt (by omega) (by omega) (by omega) (by omega)]; exact eq_true (by omega)
    have nx : zI deep + 1 = zI ((deep + 1 : Nat) : Int) := by rw [show (1 : Int32) = zI 1 from rfl, zI_add]; rfl
    refine ⟨fun σ i l s hc h => ?_, fun σ i l s hc h => ?_⟩
    · have hlt : i < tkM T L := tc_0 (by omega)
      obtain ⟨σ1, e1, s1, g1, r1⟩ := St_next hN hT h hlt
      have ef : fX6_readInner N (D + 1) (zI deep) 93 σ = (fX6_readSum N (fX6_readInner N D) (zI ((deep + 1 : Nat) : Int)) σ1).bind fun y => fX6_readInner_b35 N (fX6_readInner N D) 93 y.1 y.2 := by
        show fX6_readInner_e N _ (zI deep) 93 σ = _
        unfold fX6_readInner_e
        simp only [c, if_true, e1, Option.bind_some, nx]
        all_goals rfl
      rw [ef]
      unfold pIn
      obtain ⟨ko, ke⟩ := k_sum hN hT iE aE σ1 (i + 1) l s s1
      cases hp : pSum (tcS T L) (tvS T L) (pIn (tcS T L) (tvS T L) d) (i + 1) l with
      | error p =>
        obtain ⟨σ2, e2, t2, r2⟩ := ke p hp
        refine ⟨fun b j l' hb => by simp [bd] at hb, fun p' hb => ?_⟩
        have : p = p' := by simpa [bd] using hb
        subst this
        refine ⟨σ2, ?_, t2, frR_trans r1 r2⟩
        rw [e2, Option.bind_some]
        unfold fX6_readInner_b35
        rw [if_pos rfl]
      | ok x =>
        obtain ⟨b, j, l'⟩ := x
        obtain ⟨σ2, e2, s2, g2, r2⟩ := ko b j l' hp
        rw [e2, Option.bind_some]
        obtain ⟨k1, k2⟩ := k_close (inn := fX6_readInner N D) (c := 93) hN hT (by omega) (by omega) s2
        show (∀ b' j' l'', (if tcS T L j = 193 then Except.ok (b, j + 1, l') else .error j) = .ok (b', j', l'') → _) ∧ (∀ p, (if tcS T L j = 193 then Except.ok (b, j + 1, l') else .error j) = .error p → _)
        by_cases q : tcS T L j = 193
        · rw [if_pos q]
          obtain ⟨σ3, e3, s3, g3, r3⟩ := k1 q
          refine ⟨fun b' j' l'' hb => ?_, fun p hb => by simp at hb⟩
          simp only [Except.ok.injEq, Prod.mk.injEq] at hb
          obtain ⟨p1, p2, p3⟩ := hb
          subst p1 p2 p3
          refine ⟨σ3, e3, s3, ?_, frR_trans r1 (frR_trans r2 r3)⟩
          have z1 := grew_trans g1 (c := []) (d := b.1) g2
          have z2 := grew_trans z1 (d := []) g3
          simpa using z2
        · rw [if_neg q]
          refine ⟨fun b j l' hb => by simp at hb, fun p' hb => ?_⟩
          have : j = p' := by simpa using hb
          subst this
          exact ⟨σ2, k2 q, s2.1.2.2.1, frR_trans r1 r2⟩
    · have hlt : i < tkM T L := tc_0 (by omega)
      obtain ⟨σ1, e1, s1, g1, r1⟩ := St_next hN hT h hlt
      have ef : fX6_readInner N (D + 1) (zI deep) 41 σ = (fX6_readTest N (fX6_readInner N D) (zI ((deep + 1 : Nat) : Int)) σ1).bind fun y => fX6_readInner_b35 N (fX6_readInner N D) 41 y.1 y.2 := by
        show fX6_readInner_e N _ (zI deep) 41 σ = _
        unfold fX6_readInner_e
        simp only [c, if_true, e1, Option.bind_some, nx]
        all_goals rfl
      rw [ef]
      unfold pInT
      obtain ⟨ko, ke⟩ := k_test hN hT iE iB aE aB σ1 (i + 1) l s s1
      cases hp : pTest (tcS T L) (tvS T L) (pIn (tcS T L) (tvS T L) d) (pInT (tcS T L) (tvS T L) d) (i + 1) l with
      | error p =>
        obtain ⟨σ2, e2, t2, r2⟩ := ke p hp
        refine ⟨fun b j l' hb => by simp [bd] at hb, fun p' hb => ?_⟩
        have : p = p' := by simpa [bd] using hb
        subst this
        refine ⟨σ2, ?_, t2, frR_trans r1 r2⟩
        rw [e2, Option.bind_some]
        unfold fX6_readInner_b35
        rw [if_pos rfl]
      | ok x =>
        obtain ⟨b, j, l'⟩ := x
        obtain ⟨σ2, e2, s2, g2, r2⟩ := ko b j l' hp
        rw [e2, Option.bind_some]
        obtain ⟨k1, k2⟩ := k_close (inn := fX6_readInner N D) (c := 41) hN hT (by omega) (by omega) s2
        show (∀ b' j' l'', (if tcS T L j = 141 then Except.ok (b, j + 1, l') else .error j) = .ok (b', j', l'') → _) ∧ (∀ p, (if tcS T L j = 141 then Except.ok (b, j + 1, l') else .error j) = .error p → _)
        by_cases q : tcS T L j = 141
        · rw [if_pos q]
          obtain ⟨σ3, e3, s3, g3, r3⟩ := k1 q
          refine ⟨fun b' j' l'' hb => ?_, fun p hb => by simp at hb⟩
          simp only [Except.ok.injEq, Prod.mk.injEq] at hb
          obtain ⟨p1, p2, p3⟩ := hb
          subst p1 p2 p3
          refine ⟨σ3, e3, s3, ?_, frR_trans r1 (frR_trans r2 r3)⟩
          have z1 := grew_trans g1 (c := []) (d := b.1 s) g2
          have z2 := grew_trans z1 (d := []) g3
          simpa using z2
        · rw [if_neg q]
          refine ⟨fun b j l' hb => by simp at hb, fun p' hb => ?_⟩
          have : j = p' := by simpa using hb
          subst this
          exact ⟨σ2, k2 q, s2.1.2.2.1, frR_trans r1 r2⟩
end RT
