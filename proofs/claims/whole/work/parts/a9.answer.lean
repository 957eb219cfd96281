/-! what a law says -/
def clF (e : Nat → Int) (c : CL) : Option Int := match c.2.2 with
  | none => c.2.1.2 e
  | some b => if b.2 e = some true then c.2.1.2 e else none
def clS (e : Nat → Int) (what : Int) (c : CL) : Option Int := if c.1 = what then clF e c else none
theorem clF_n {e : Nat → Int} {c : CL} (h : c.2.2 = none) : clF e c = c.2.1.2 e := by unfold clF; rw [h]
theorem clF_s {e : Nat → Int} {c : CL} {b : BT} (h : c.2.2 = some b) : clF e c = if b.2 e = some true then c.2.1.2 e else none := by unfold clF; rw [h]
theorem clF_sm {N K : Nat} {e : Nat → Int} {c : CL} {v : Int} (hc : GC N K c) (hv : okV e) (h : clF e c = some v) : smE v := by
  refine (hc.2.1 e hv).2 v ?_
  cases ht : c.2.2 with
  | none => rw [clF_n ht] at h; exact h
  | some b =>
    rw [clF_s ht] at h
    by_cases q : b.2 e = some true
    · rw [if_pos q] at h; exact h
    · rw [if_neg q] at h; simp at h
def lawS (e : Nat → Int) (what : Int) : List CL → Int → Int
  | [], t => t
  | c :: cs, t => lawS e what cs ((clS e what c).getD t)
theorem lawS_add {e : Nat → Int} {what : Int} (b : CL) : ∀ (a : List CL) (t : Int), lawS e what (a ++ [b]) t = (clS e what b).getD (lawS e what a t)
  | [], t => rfl
  | c :: cs, t => lawS_add b cs _
theorem rowsAt {c : CL} : ∀ (cl : List CL) (s0 k : Nat), cl[k]? = some c → ∃ s, (lawR s0 cl)[k]? = some (c.1, s, s + c.2.1.1.length, s + (clC s c).length) ∧ (∀ q x, (clC s c)[q]? = some x → (lawC s0 cl)[s - s0 + q]? = some x) ∧ s0 ≤ s ∧ s + (clC s c).length ≤ s0 + (lawC s0 cl).length
  | [], s0, k, h => by simp at h
  | d :: ds, s0, 0, h => by
    have : d = c := by simpa using h
    subst this
    refine ⟨s0, rfl, fun q x hq => ?_, Nat.le_refl _, ?_⟩
    · show (clC s0 d ++ lawC (s0 + (clC s0 d).length) ds)[s0 - s0 + q]? = some x
      rw [Nat.sub_self, Nat.zero_add, List.getElem?_append_left (getElem_lt hq)]
      exact hq
    · show _ ≤ s0 + (clC s0 d ++ lawC (s0 + (clC s0 d).length) ds).length
      rw [List.length_append]
      omega
  | d :: ds, s0, k + 1, h => by
    obtain ⟨s, r1, r2, r3, r4⟩ := rowsAt (c := c) ds (s0 + (clC s0 d).length) k (by simpa using h)
    refine ⟨s, r1, fun q x hq => ?_, by omega, ?_⟩
    · show (clC s0 d ++ lawC (s0 + (clC s0 d).length) ds)[s - s0 + q]? = some x
      rw [List.getElem?_append_right (by omega)]
      have := r2 q x hq
      rw [show s - s0 + q - (clC s0 d).length = s - (s0 + (clC s0 d).length) + q by omega]
      exact this
    · show _ ≤ s0 + (clC s0 d ++ lawC (s0 + (clC s0 d).length) ds).length
      rw [List.length_append]
      omega
/-! the class answers -/
theorem e_work {N K : Nat} {e : Nat → Int} {c : Nat → List (Int × Int)} {f : Option Int} {s t sz : Nat} {σ : qMem} (hN : 200000 ≤ N) (hw : Wk N K e c f 20) (hl : ldC K s (c s) σ) (he : envK K e σ) (h5 : gi σ K 5 = zI sz) (hs : t ≤ sz) (h4 : sz ≤ 400) (ht : t = s + (c s).length) :
    Ho (fX5_work N K (zI s) (zI t) σ) (fun y => frK K σ y.2 ∧ (∀ v, f = some v → y.1 = 1 ∧ gl y.2 (K + 6) 0 = zL v) ∧ (f = none → y.1 = 0)) := by
  unfold fX5_work
  have m : fJ9_max_7cf53 0 (zI s) = some (zI s) := by
    rw [show (0 : Int32) = zI 0 from rfl, e_max (by omega) (by omega) (by omega) (by omega)]
    congr 2
    all_goals omega
  simp only [nmM, m, Option.bind_some]
  have f0 : frK K σ (si σ K 6 0) := fun k j hk => by rw [gi_si, if_neg hk]
  obtain ⟨wn, ws⟩ := hw s t 0 N sz (si σ K 6 0) (fun y => frK K σ y.2 ∧ (∀ v, f = some v → y.1 = 1 ∧ gl y.2 (K + 6) 0 = zL v) ∧ (f = none → y.1 = 0)) (ldC_fr hl f0) (envK_fr he f0) ((f0 _ _ (by omega)).trans h5) hs h4 (by omega) (by rw [gi_si, if_pos ⟨rfl, rfl⟩]; rfl) (by omega) (by omega)
  cases hf : f with
  | none =>
    rw [hf] at wn
    refine wn rfl (fun σ' f' => ⟨frK_trans f0 f', fun v hv => by simp at hv, fun _ => rfl⟩)
  | some v =>
    rw [hf] at ws
    refine ws v rfl (fun σ' n' p hn' => ?_)
    obtain ⟨p1, p2, p3, p4⟩ := p
    obtain ⟨n', rfl⟩ : ∃ k, n' = k + 1 := ⟨n' - 1, by omega⟩
    rw [← ht]
    show Ho (fX5_work_s11 N K _ (zI t) (zI t) σ') _
    unfold fX5_work_s11 fX5_work_b224
    have c1 : (zI t ≤ zI t) = True := by rw [zI_le (by omega) (by omega) (by omega) (by omega)]; exact eq_true (by omega)
    simp only [c1, if_true, p2]
    rw [if_pos (show zI ((0 + 1 : Nat) : Int) = 1 from rfl)]
    refine Ho_some ⟨frK_trans f0 p1, fun w hw => ⟨rfl, ?_⟩, fun z => by simp at z⟩
    have : v = w := by simpa using hw
    rw [← this]
    exact p3
def LwK (m : Nat → Nat → Int32) (K : Nat) (cl : List CL) : Prop := m K 5 = zI (lawC 0 cl).length ∧ (lawC 0 cl).length ≤ 400 ∧ cl.length ≤ 12 ∧ cdOK m K (lawC 0 cl) ∧ rwOK m K (lawR 0 cl) ∧ m (K + 1) 0 = 4
theorem e_holds {N K k : Nat} {e : Nat → Int} {cl : List CL} {c : CL} {σ : qMem} (hN : 200000 ≤ N) (hL : LwK σ.1 K cl) (hk : cl[k]? = some c) (hc : GC N K c) (he : envK K e σ) (hv : okV e) :
    Ho (fX5_holds N K (zI k) σ) (fun y => frK K σ y.2 ∧ (∀ v, clF e c = some v → y.1 = 1 ∧ gl y.2 (K + 6) 0 = zL v) ∧ (clF e c = none → y.1 = 0)) := by
  obtain ⟨l5, l4, l12, lcd, lrw, lw4⟩ := hL
  obtain ⟨s, r1, r2, r3, r4⟩ := rowsAt cl 0 k hk
  have kl := getElem_lt hk
  obtain ⟨a1, a2, a3, a4⟩ := lrw.2 k _ r1
  have rl := lrw.1
  rw [lawR_len] at rl
  have g3 : gi σ (K + 1) 3 = zI (cl.length : Nat) := rl
  have g0 : gi σ (K + 1) 0 = zI 4 := lw4
  have at_ : ∀ col : Nat, col < 4 → fX8_at (K + 1) 48 (zI k) (zI col) σ = some (gi σ (K + 2) (4 * k + col)) := fun col hcol => by
    rw [e_at (n := 48) g0 g3 (by omega) (by omega) (by omega) (by omega) (by omega) (by omega) (by omega)]
    congr 2
    omega
  have t1 : fX8_at (K + 1) 48 (zI k) 1 σ = some (zI s) := (at_ 1 (by omega)).trans (by rw [show gi σ (K + 2) (4 * k + 1) = zI s from a2])
  have t2 : fX8_at (K + 1) 48 (zI k) 2 σ = some (zI ((s + c.2.1.1.length : Nat) : Int)) := (at_ 2 (by omega)).trans (by rw [show gi σ (K + 2) (4 * k + 2) = _ from a3])
  have t3 : fX8_at (K + 1) 48 (zI k) 3 σ = some (zI ((s + (clC s c).length : Nat) : Int)) := (at_ 3 (by omega)).trans (by rw [show gi σ (K + 2) (4 * k + 3) = _ from a4])
  have ld : ldC K s (clC s c) σ := fun q x hq => by
    have := r2 q x hq
    rw [Nat.sub_zero] at this
    exact lcd _ x this
  have ecl : clC s c = c.2.1.1 ++ clT s c := rfl
  have elen : (clC s c).length = c.2.1.1.length + (clT s c).length := by rw [ecl, List.length_append]
  unfold fX5_holds
  rw [t1, Option.bind_some, t2, Option.bind_some, t3, Option.bind_some]
  have c1 : (zI ((s + (clC s c).length : Nat) : Int) ≤ zI ((s + c.2.1.1.length : Nat) : Int)) = ((clT s c).length = 0) := by rw [zI_le (by omega) (by omega) (by omega) (by omega)]; exact propext (by omega)
  simp only [c1]
  have sumH : ∀ σ', frK K σ σ' → Ho (fX5_holds_b60 N K (zI s) (zI ((s + c.2.1.1.length : Nat) : Int)) σ') (fun y => frK K σ y.2 ∧ (∀ v, c.2.1.2 e = some v → y.1 = 1 ∧ gl y.2 (K + 6) 0 = zL v) ∧ (c.2.1.2 e = none → y.1 = 0)) := fun σ' f' => by
    unfold fX5_holds_b60
    refine Ho_bind (e_work hN ((hc.2.1 e hv).1) (ldC_fr (ldC_l ld) f') (envK_fr he f') ((f' _ _ (by omega)).trans l5) (by omega) l4 rfl) (fun y ⟨y1, y2, y3⟩ => ?_)
    have hy : y.1 = 0 ∨ y.1 = 1 := by
      cases hf : c.2.1.2 e with
      | none => exact Or.inl (y3 hf)
      | some v => exact Or.inr (y2 v hf).1
    rw [if_pos hy]
    exact Ho_some ⟨frK_trans f' y1, y2, y3⟩
  cases ht : c.2.2 with
  | none =>
    have : clT s c = [] := by unfold clT; rw [ht]
    rw [this, if_pos (show ([] : List (Int × Int)).length = 0 from rfl), clF_n ht]
    exact sumH σ (frK_refl K σ)
  | some b =>
    obtain ⟨gb, ln⟩ := hc.2.2 b ht
    have eb : clT s c = b.1 (s + c.2.1.1.length) := by unfold clT; rw [ht]
    have l1 := ln (s + c.2.1.1.length)
    rw [if_neg (by rw [eb]; omega)]
    have ldb : ldC K (s + c.2.1.1.length) (b.1 (s + c.2.1.1.length)) σ := by
      rw [← eb]
      exact ldC_r ld
    refine Ho_bind (e_work hN (gb e hv) ldb he l5 (by omega) l4 (by rw [elen, eb]; omega)) (fun y ⟨y1, y2, y3⟩ => ?_)
    rw [clF_s ht]
    cases hf : b.2 e with
    | none =>
      rw [if_pos (y3 (by rw [hf]; rfl))]
      exact Ho_some ⟨y1, fun v hv => by simp at hv, fun _ => rfl⟩
    | some x =>
      obtain ⟨z1, z2⟩ := y2 (bV x) (by rw [hf]; rfl)
      rw [if_neg (by rw [z1]; exact n10), if_pos (by decide), show (0 : Int32).toNatClampNeg = 0 from rfl, z2]
      have lz : (lg_cmp (zL (bV x)) 0 = 0) = (x = false) := by
        rw [show (0 : Int64) = zL 0 from rfl]
        refine propext ((lg_cmp_eq _ _).trans ?_)
        cases x <;> decide
      simp only [lz]
      cases x with
      | false =>
        rw [if_pos rfl]
        exact Ho_some ⟨y1, fun v hv => by simp at hv, fun _ => rfl⟩
      | true =>
        rw [if_neg (by decide)]
        simp only [if_true]
        exact sumH y.2 y1
theorem e_answer {N K : Nat} {e : Nat → Int} {cl : List CL} {what range : Int} {σ : qMem} (hN : 200000 ≤ N) (hL : LwK σ.1 K cl) (hg : ∀ c ∈ cl, GC N K c) (he : ∀ w, w < 5 → w ≠ 2 → gi σ (K + 5) w = zI (e w)) (e2 : e 2 = range) (hv : okV e) (w0 : 0 ≤ what) (w1 : what ≤ 2) :
    Ho (fX5_answer N K (zI what) (zI range) σ) (fun y => y.1 = zI (lawS e what cl 0) ∧ ∀ k j, ¬ ((k = K ∧ j = 6) ∨ (k = K + 5 ∧ j = 2)) → gi y.2 k j = gi σ k j) := by
  unfold fX5_answer
  rw [if_pos (by decide)]
  simp only [nmM]
  rw [show (2 : Int32).toNatClampNeg = 2 from rfl]
  generalize hs : si σ (K + 5) 2 (zI range) = σ1
  have o1 : ∀ k j, ¬ (k = K + 5 ∧ j = 2) → gi σ1 k j = gi σ k j := fun k j hk => by rw [← hs, gi_si, if_neg hk]
  have hL1 : LwK σ1.1 K cl := by
    obtain ⟨l5, l4, l12, lcd, lrw, lw4⟩ := hL
    refine ⟨(o1 _ _ (by omega)).trans l5, l4, l12, fun k x hk => ⟨(o1 _ _ (by omega)).trans (lcd k x hk).1, (o1 _ _ (by omega)).trans (lcd k x hk).2⟩, ⟨(o1 _ _ (by omega)).trans lrw.1, fun k x hk => ?_⟩, (o1 _ _ (by omega)).trans lw4⟩
    obtain ⟨a, b, c, d⟩ := lrw.2 k x hk
    exact ⟨(o1 _ _ (by omega)).trans a, (o1 _ _ (by omega)).trans b, (o1 _ _ (by omega)).trans c, (o1 _ _ (by omega)).trans d⟩
  have he1 : envK K e σ1 := fun w hw => ⟨by
    by_cases q : w = 2
    · subst q; rw [← hs, gi_si, if_pos ⟨rfl, rfl⟩, e2]
    · rw [o1 _ _ (by omega)]; exact he w hw q, hv w hw⟩
  have g3 : gi σ1 (K + 1) 3 = zI (cl.length : Nat) := by have := hL1.2.2.2.2.1.1; rw [lawR_len] at this; exact this
  have l12 := hL1.2.2.1
  rw [g3]
  have loop : ∀ (k nf : Nat) (σ' : qMem), k ≤ cl.length → k < nf → frK K σ1 σ' → Ho (fX5_answer_l17 N K nf (zI what) (zI ((k : Int) - 1)) σ') (fun y => y.1 = zI (lawS e what (cl.take k) 0) ∧ frK K σ1 y.2) := by
    intro k
    induction k with
    | zero =>
      intro nf σ' hk hn f'
      obtain ⟨nf, rfl⟩ : ∃ x, nf = x + 1 := ⟨nf - 1, by omega⟩
      show Ho (fX5_answer_s17 N K _ (zI what) (zI (((0 : Nat) : Int) - 1)) σ') _
      unfold fX5_answer_s17
      rw [if_pos (by decide)]
      exact Ho_some ⟨rfl, f'⟩
    | succ k ih =>
      intro nf σ' hk hn f'
      obtain ⟨nf, rfl⟩ : ∃ x, nf = x + 1 := ⟨nf - 1, by omega⟩
      have hck : cl[k]? = some cl[k] := List.getElem?_eq_getElem (by omega)
      generalize hcc : cl[k] = c at hck
      have hgc := hg c (by rw [← hcc]; exact List.getElem_mem _)
      have etk : cl.take (k + 1) = cl.take k ++ [c] := by rw [List.take_succ, hck]; rfl
      rw [etk, lawS_add]
      have hL' : LwK σ'.1 K cl := by
        obtain ⟨l5, l4, l12, lcd, lrw, lw4⟩ := hL1
        refine ⟨(f' _ _ (by omega)).trans l5, l4, l12, fun k x hk => ⟨(f' _ _ (by omega)).trans (lcd k x hk).1, (f' _ _ (by omega)).trans (lcd k x hk).2⟩, ⟨(f' _ _ (by omega)).trans lrw.1, fun k x hk => ?_⟩, (f' _ _ (by omega)).trans lw4⟩
        obtain ⟨a, b, c, d⟩ := lrw.2 k x hk
        exact ⟨(f' _ _ (by omega)).trans a, (f' _ _ (by omega)).trans b, (f' _ _ (by omega)).trans c, (f' _ _ (by omega)).trans d⟩
      obtain ⟨s, r1, _, _, _⟩ := rowsAt cl 0 k hck
      have a1 := (hL'.2.2.2.2.1.2 k _ r1).1
      have t0 : fX8_at (K + 1) 48 (zI k) 0 σ' = some (zI c.1) := by
        have g3' : gi σ' (K + 1) 3 = zI (cl.length : Nat) := (f' _ _ (by omega)).trans g3
        have h0 : fX8_at (K + 1) 48 (zI k) (zI 0) σ' = _ := e_at (n := 48) (show gi σ' (K + 1) 0 = zI 4 from hL'.2.2.2.2.2) g3' (by omega) (by omega) (by omega) (by omega) (by omega) (by omega) (by omega)
        refine (show fX8_at (K + 1) 48 (zI k) 0 σ' = _ from h0).trans ?_
        rw [show ((k : Int) * 4 + 0).toNat = 4 * k by omega]
        exact congrArg some a1
      show Ho (fX5_answer_s17 N K _ (zI what) (zI (((k + 1 : Nat) : Int) - 1)) σ') _
      rw [show (((k + 1 : Nat) : Int) - 1) = (k : Int) by omega]
      unfold fX5_answer_s17 fX5_answer_b50
      have c1 : (zI k < 0) = False := by rw [show (0 : Int32) = zI 0 from rfl, zI_lt (by omega) (by omega) (by omega) (by omega)]; exact eq_false (by omega)
      have hr := hgc.1
      have c2 : (zI c.1 = zI what) = (c.1 = what) := by rw [zI_eq (by omega) (by omega) (by omega) (by omega)]
      simp only [c1, if_false, t0, Option.bind_some, c2]
      have nx : zI (k : Int) + (-1) = zI ((k : Int) - 1) := by rw [show (-1 : Int32) = zI (-1) from rfl, zI_add]; rfl
      rw [nx]
      unfold clS
      by_cases q : c.1 = what
      · rw [if_pos q, if_pos q]
        refine Ho_bind (e_holds hN hL' hck hgc (envK_fr he1 f') hv) (fun y ⟨y1, y2, y3⟩ => ?_)
        cases hfo : clF e c with
        | none =>
          rw [if_pos (y3 hfo)]
          exact ih nf y.2 (by omega) (by omega) (frK_trans f' y1)
        | some v =>
          obtain ⟨z1, z2⟩ := y2 v hfo
          have sv := clF_sm hgc hv hfo
          unfold smE at sv
          rw [if_neg (by rw [z1]; exact n10), if_pos (by decide), show (0 : Int32).toNatClampNeg = 0 from rfl, z2, zL_int (by omega) (by omega)]
          exact Ho_some ⟨rfl, frK_trans f' y1⟩
      · rw [if_neg q, if_neg q]
        exact ih nf σ' (by omega) (by omega) f'
  have := loop cl.length N σ1 (Nat.le_refl _) (by omega) (frK_refl K σ1)
  rw [List.take_length] at this
  rw [show zI (cl.length : Int) - 1 = zI ((cl.length : Int) - 1) by rw [show (1 : Int32) = zI 1 from rfl, zI_sub]]
  refine Ho_mono this (fun y ⟨y1, y2⟩ => ⟨y1, fun k j hk => ?_⟩)
  rw [y2 k j (by omega)]
  exact o1 k j (by omega)
