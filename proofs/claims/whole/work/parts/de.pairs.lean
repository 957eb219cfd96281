/-! pairings: who crosses, by the class -/
noncomputable def crsN (κ : Nat → Int32) (bell : Int) (i0 i1 : Bool × Nat) : Nat := fb_sm (fun x => fb_ct (fun y => crsB κ i0 i1 bell x y) 32) 32
noncomputable def prB (κ : Nat → Int32) (bell : Int) (i k : Nat) : Bool := (((crossL κ ((0 : Nat) : Int) bell)[i]?).bind fun a => ((crossL κ ((1 : Nat) : Int) bell)[k]?).map fun b => decide (0 < crsN κ bell a b)).getD false
noncomputable def cln (κ : Nat → Int32) (b : Nat) (bell : Int) : Nat := (crossL κ (b : Int) bell).length
theorem crsN_le (κ : Nat → Int32) (bell : Int) (i0 i1 : Bool × Nat) : crsN κ bell i0 i1 ≤ 1024 := fb_sm_bound (c := 32) (n := 32) (fun _ _ => fb_ct_le _ _)
theorem cln_le {κ : Nat → Int32} {b : Nat} {bell : Int} (kw : KW κ) : cln κ b bell ≤ 36 := by
  have h1 : cln κ b bell ≤ (freshL κ (b : Int) (newsL κ)).length := List.length_filter_le _ _
  have h2 := freshL_len κ (b : Int) (newsL κ)
  have h3 := newsL_len kw.2.2.1 kw.2.2.2.1
  omega
def cpv (σ : qMem) (κ : Nat → Int32) (s : qMem) : Prop := gi s 44 15 ≠ 0 ∧ CI s.1 κ ∧ SC σ s
theorem cpv_67 {σ s : qMem} {κ : Nat → Int32} (h : cpv σ κ s) (i : Nat) (w : Int32) : cpv σ κ (si s 67 i w) := by
  have sc : SC s (si s 67 i w) := fun k j q => by rw [gi_si, if_neg (by unfold scrC at q; omega)]
  refine ⟨by rw [gi_si, if_neg (by omega)]; exact h.1, CI_of h.2.1 sc (CC_c (m := s.1) (m' := (si s 67 i w).1) (fun k j q => ?_) h.2.1.2.2.2), SC_trans h.2.2 sc⟩
  show gi (si s 67 i w) k j = gi s k j
  rw [gi_si, if_neg (by omega)]
/-- who is next in turn, by the class -/
theorem e_fh {N : Nat} {σ s : qMem} {κ : Nat → Int32} {b : Nat} {bell T : Int} (hN : 200000 ≤ N) (h : cpv σ κ s) (hb : b < 2) (l0 : 0 ≤ bell) (l1 : bell ≤ 23) (t0 : -2147483648 ≤ T) (t1 : T < 2147483648) : ∃ v : Int32, fX3_freshHeard N (zI b) (zI bell) (zI T) s = some v ∧ ((v = -1) = ¬ (0 ≤ T ∧ T < (cln κ b bell : Int))) ∧ (0 ≤ T ∧ T < (cln κ b bell : Int) → ∃ (i : Nat) (it : Bool × Nat), v = zI i ∧ (freshL κ b (newsL κ))[i]? = some it ∧ (crossL κ b bell)[T.toNat]? = some it) := by
  have kw := h.2.1.2.2.1
  have cc := h.2.1.2.2.2
  have so : sorts s.1 κ := cc.2.2.1 h.1
  obtain ⟨v, e, x⟩ := Ho_get (e_freshHeard (N := N) (σ := s) (T := T) hN kw so.2.2 cc.1 cc.2.1 hb l0 l1 t0 t1)
  refine ⟨v, e, ?_, ?_⟩
  · rcases x with ⟨s0, i, it, rfl, g, k⟩ | ⟨rfl, z⟩
    · have b1 := (List.getElem?_eq_some_iff.mp g).1
      have b2 := (List.getElem?_eq_some_iff.mp k).1
      have f1 := freshL_len κ (b : Int) (newsL κ)
      have f2 := newsL_len kw.2.2.1 kw.2.2.2.1
      rw [show (-1 : Int32) = zI (-1) from rfl, zI_eq (by omega) (by omega) (by omega) (by omega)]
      unfold cln
      exact propext ⟨fun z => by omega, fun z => absurd ⟨s0, by omega⟩ z⟩
    · unfold cln
      exact propext ⟨fun _ => by omega, fun _ => rfl⟩
  · intro ⟨c1, c2⟩
    rcases x with ⟨s0, i, it, rfl, g, k⟩ | ⟨rfl, z⟩
    · exact ⟨i, it, rfl, g, k⟩
    · unfold cln at c2; omega
/-- one pair -/
theorem e_pair {N : Nat} {σ s : qMem} {κ : Nat → Int32} {bell : Int} {i k : Nat} (hN : 200000 ≤ N) (h : cpv σ κ s) (l0 : 0 ≤ bell) (l1 : bell ≤ 23) (hi : i < cln κ 0 bell) (hk : k < cln κ 1 bell) : ∃ (y5 y6 : Int32) (M : Nat) (s' : qMem), fX3_freshHeard N 0 (zI bell) (zI i) s = some y5 ∧ fX3_freshHeard N 1 (zI bell) (zI k) s = some y6 ∧ fX3_crossings N (zI bell) y5 y6 s = some (zI M, s') ∧ (zI (M : Int) ≤ 0) = (prB κ bell i k = false) ∧ cpv σ κ s' ∧ ∀ j, gi s' 67 j = gi s 67 j := by
  have kw := h.2.1.2.2.1
  have cc := h.2.1.2.2.2
  have c36 := fun b => cln_le (κ := κ) (b := b) (bell := bell) kw
  have d0 := c36 0
  have d1 := c36 1
  obtain ⟨y5, e5, _, z5⟩ := e_fh (b := 0) (T := (i : Int)) hN h (by omega) l0 l1 (by omega) (by omega)
  obtain ⟨y6, e6, _, z6⟩ := e_fh (b := 1) (T := (k : Int)) hN h (by omega) l0 l1 (by omega) (by omega)
  obtain ⟨n5, it5, rfl, g5, k5⟩ := z5 ⟨by omega, by omega⟩
  obtain ⟨n6, it6, rfl, g6, k6⟩ := z6 ⟨by omega, by omega⟩
  have so : sorts s.1 κ := cc.2.2.1 h.1
  obtain ⟨s2, eu, t1, t2, t3⟩ := Ho_get (e_tune hN h.2.1.2.1 kw cc)
  obtain ⟨se, ci2, sc2⟩ := ready_of so h.2.1 h.2.2 t1 t3
  obtain ⟨⟨v, s3⟩, ec, c1, c2⟩ := Ho_get (e_crossL hN se g5 g6 l0 l1)
  obtain ⟨ci3, sc3⟩ := tally_of ci2 (fun k j p1 p2 _ => c2 k j p1 p2)
  have c1' : v = zI (crsN κ bell it5 it6 : Nat) := c1
  have c2' : ∀ k j, k ≠ 62 → k ≠ 63 → gi s3 k j = gi s2 k j := c2
  have ml := crsN_le κ bell it5 it6
  refine ⟨zI n5, zI n6, crsN κ bell it5 it6, s3, e5, e6, ?_, ?_, ⟨?_, ci3, SC_trans sc2 sc3⟩, fun j => ?_⟩
  · unfold fX3_crossings
    rw [eu, Option.bind_some, ec, c1']
  · rw [show (0 : Int32) = zI 0 from rfl, zI_le (by omega) (by omega) (by omega) (by omega)]
    have : prB κ bell i k = decide (0 < crsN κ bell it5 it6) := by
      unfold prB
      rw [show (i : Int).toNat = i by omega] at k5
      rw [show (k : Int).toNat = k by omega] at k6
      rw [k5, k6]; rfl
    rw [this, decide_eq_false_iff_not]
    exact propext (by omega)
  · rw [c2' _ _ (by omega) (by omega), t3 _ _ (by omega)]; exact h.1
  · rw [c2' _ _ (by omega) (by omega), t3 _ _ (by omega)]
/-- all pairs -/
theorem e_fill67 {N n : Nat} {σ : qMem} {κ : Nat → Int32} {bell : Int} (hN : 200000 ≤ N) (l0 : 0 ≤ bell) (l1 : bell ≤ 23) (hn : n ≤ 6) (h0 : cln κ 0 bell = n) (h1 : cln κ 1 bell = n) : ∀ (d i f : Nat) (s : qMem), i + d = n → d < f → cpv σ κ s → (∀ a b, a < i → b < n → bt (gi s 67 a) b = prB κ bell a b) → ∃ s', fX3_crossAll_l70 N f (zI bell) (zI n) (zI i) s = some (zI n, s') ∧ cpv σ κ s' ∧ (∀ a b, a < n → b < n → bt (gi s' 67 a) b = prB κ bell a b) := by
  intro d
  induction d with
  | zero =>
    intro i f s hi hf hc hr
    obtain ⟨f, rfl⟩ : ∃ x, f = x + 1 := ⟨f - 1, by omega⟩
    have : i = n := by omega
    subst this
    refine ⟨s, ?_, hc, hr⟩
    show fX3_crossAll_s70 N _ (zI bell) (zI i) (zI i) s = _
    unfold fX3_crossAll_s70
    have c1 : (zI (i : Int) ≤ zI (i : Int)) = True := by rw [zI_le (by omega) (by omega) (by omega) (by omega)]; exact eq_true (by omega)
    simp only [c1, if_true]
  | succ d ih =>
    intro i f s hi hf hc hr
    obtain ⟨f, rfl⟩ : ∃ x, f = x + 1 := ⟨f - 1, by omega⟩
    show ∃ s', fX3_crossAll_s70 N _ (zI bell) (zI n) (zI i) s = _ ∧ _
    unfold fX3_crossAll_s70
    have c1 : (zI (n : Int) ≤ zI (i : Int)) = False := by rw [zI_le (by omega) (by omega) (by omega) (by omega)]; exact eq_false (by omega)
    have ki : (ck (zI (i : Int)) 6 = true) = True := zI_ckT (by omega) (by omega) (by omega)
    have zi : (zI (i : Int)).toNatClampNeg = i := by rw [zI_clamp (by omega) (by omega)]; omega
    simp only [c1, if_false, ki, zi, if_true, nmM]
    have inner : ∀ (e k g : Nat) (u : qMem), k + e = n → e < g → cpv σ κ u → (∀ a b, a < i → b < n → bt (gi u 67 a) b = prB κ bell a b) → (∀ b, b < n → bt (gi u 67 i) b = (decide (b < k) && prB κ bell i b)) → ∃ u', fX3_crossAll_l87 N (fX3_crossAll_l70 N f) g (zI bell) (zI n) (zI i) (zI k) u = fX3_crossAll_l70 N f (zI bell) (zI n) (zI ((i + 1 : Nat) : Int)) u' ∧ cpv σ κ u' ∧ (∀ a b, a < i + 1 → b < n → bt (gi u' 67 a) b = prB κ bell a b) := by
      intro e
      induction e with
      | zero =>
        intro k g u hk hg hu h1' h2'
        obtain ⟨g, rfl⟩ : ∃ x, g = x + 1 := ⟨g - 1, by omega⟩
        have : k = n := by omega
        subst this
        refine ⟨u, ?_, hu, fun a b ha hb => ?_⟩
        · show fX3_crossAll_s87 N _ _ (zI bell) (zI k) (zI i) (zI k) u = _
          unfold fX3_crossAll_s87
          have c1 : (zI (k : Int) ≤ zI (k : Int)) = True := by rw [zI_le (by omega) (by omega) (by omega) (by omega)]; exact eq_true (by omega)
          simp only [c1, if_true]
          rw [show zI (i : Int) + 1 = zI ((i + 1 : Nat) : Int) by rw [show (1 : Int32) = zI 1 from rfl, zI_add]; rfl]
        · by_cases z : a = i
          · rw [z, h2' b hb, decide_eq_true hb, Bool.true_and]
          · exact h1' a b (by omega) hb
      | succ e ihe =>
        intro k g u hk hg hu h1' h2'
        obtain ⟨g, rfl⟩ : ∃ x, g = x + 1 := ⟨g - 1, by omega⟩
        show ∃ u', fX3_crossAll_s87 N _ _ (zI bell) (zI n) (zI i) (zI k) u = _ ∧ _
        unfold fX3_crossAll_s87 fX3_crossAll_b131
        have c1 : (zI (n : Int) ≤ zI (k : Int)) = False := by rw [zI_le (by omega) (by omega) (by omega) (by omega)]; exact eq_false (by omega)
        obtain ⟨y5, y6, M, u1, e1, e2, e3, e4, e5, e6⟩ := e_pair (i := i) (k := k) hN hu l0 l1 (by omega) (by omega)
        simp only [c1, if_false, e1, e2, e3, e4, Option.bind_some, ki, zi, if_true, nmM]
        rw [show zI (k : Int) + 1 = zI ((k + 1 : Nat) : Int) by rw [show (1 : Int32) = zI 1 from rfl, zI_add]; rfl]
        cases q : prB κ bell i k with
        | false =>
          rw [if_pos rfl]
          refine ihe (k + 1) g u1 (by omega) (by omega) e5 (fun a b ha hb => by rw [e6]; exact h1' a b ha hb) (fun b hb => ?_)
          rw [e6, h2' b hb]
          by_cases z : b = k
          · rw [z, q, Bool.and_false, Bool.and_false]
          · by_cases y : b < k
            · rw [decide_eq_true y, decide_eq_true (by omega)]
            · rw [decide_eq_false y, decide_eq_false (by omega)]
        | true =>
          rw [if_neg (by decide)]
          refine ihe (k + 1) g _ (by omega) (by omega) (cpv_67 e5 _ _) (fun a b ha hb => by rw [gi_si, if_neg (by omega), e6]; exact h1' a b ha hb) (fun b hb => ?_)
          rw [gi_si, if_pos ⟨rfl, rfl⟩, e6, bt_or1 (by omega) (by omega), h2' b hb]
          by_cases z : b = k
          · rw [z, q, decide_eq_true rfl, Bool.or_true, decide_eq_true (by omega)]; rfl
          · by_cases y : b < k
            · rw [decide_eq_true y, decide_eq_true (show b < k + 1 by omega), decide_eq_false z, Bool.or_false]
            · rw [decide_eq_false y, decide_eq_false (show ¬ b < k + 1 by omega), decide_eq_false z]; rfl
    obtain ⟨u', f1, f2, f3⟩ := inner n 0 N (si s 67 i 0) (by omega) (by omega) (cpv_67 hc _ _) (fun a b ha hb => by rw [gi_si, if_neg (by omega)]; exact hr a b ha hb) (fun b hb => by rw [gi_si, if_pos ⟨rfl, rfl⟩, b_0 b, decide_eq_false (by omega)]; rfl)
    have f1' : fX3_crossAll_l87 N (fX3_crossAll_l70 N f) N (zI bell) (zI n) (zI i) 0 (si s 67 i 0) = _ := f1
    rw [f1']
    exact ih (i + 1) f u' (by omega) (by omega) f2 f3
noncomputable def nPr (κ : Nat → Int32) (bell : Int) : Nat := if cln κ 0 bell = cln κ 1 bell ∧ cln κ 0 bell ≤ 6 then cln κ 0 bell else 0
theorem e_crossAll {N : Nat} {σ s : qMem} {κ : Nat → Int32} {bell : Int} (hN : 200000 ≤ N) (l0 : 0 ≤ bell) (l1 : bell ≤ 23) (h : cpv σ κ s) : ∃ s', fX3_crossAll N (zI bell) s = some (zI (nPr κ bell : Nat), s') ∧ cpv σ κ s' ∧ (∀ a b, a < nPr κ bell → b < nPr κ bell → bt (gi s' 67 a) b = prB κ bell a b) := by
  have kw := h.2.1.2.2.1
  have d0 := cln_le (κ := κ) (b := 0) (bell := bell) kw
  have d1 := cln_le (κ := κ) (b := 1) (bell := bell) kw
  have fh := fun (b : Nat) (T : Int) (hb : b < 2) (t0 : -2147483648 ≤ T) (t1 : T < 2147483648) => e_fh (N := N) (b := b) (T := T) hN h hb l0 l1 t0 t1
  have fin : ∀ v : Nat, v ≤ 7 → (v = cln κ 0 bell ∨ (v = 7 ∧ 7 ≤ cln κ 0 bell)) → ∃ s', fX3_crossAll_b25 N (zI bell) (zI v) s = some (zI (nPr κ bell : Nat), s') ∧ cpv σ κ s' ∧ (∀ a b, a < nPr κ bell → b < nPr κ bell → bt (gi s' 67 a) b = prB κ bell a b) := by
    intro v hv hv2
    unfold fX3_crossAll_b25 fX3_crossAll_b53 fX3_crossAll_b54
    obtain ⟨y2, e2, x2, _⟩ := fh 1 (v : Int) (by omega) (by omega) (by omega)
    obtain ⟨y3, e3, x3, _⟩ := fh 1 ((v : Int) - 1) (by omega) (by omega) (by omega)
    have e2' : fX3_freshHeard N 1 (zI bell) (zI v) s = some y2 := e2
    have e3' : fX3_freshHeard N 1 (zI bell) (zI v - 1) s = some y3 := by rw [show zI (v : Int) - 1 = zI ((v : Int) - 1) by rw [show (1 : Int32) = zI 1 from rfl, zI_sub]]; exact e3
    have c6 : ((6 : Int32) < zI (v : Int)) = (6 < v) := by rw [show (6 : Int32) = zI 6 from rfl, zI_lt (by omega) (by omega) (by omega) (by omega)]; exact propext (by omega)
    have none0 : nPr κ bell = 0 → ∃ s', some ((0 : Int32), s) = some (zI (nPr κ bell : Nat), s') ∧ cpv σ κ s' ∧ (∀ a b, a < nPr κ bell → b < nPr κ bell → bt (gi s' 67 a) b = prB κ bell a b) := fun z => ⟨s, by rw [z]; rfl, h, fun a b ha => by omega⟩
    simp only [e2', e3', Option.bind_some, x2, x3, c6, if_true]
    by_cases q : v = cln κ 1 bell ∧ v = cln κ 0 bell ∧ 1 ≤ v ∧ v ≤ 6
    · have np : nPr κ bell = v := by unfold nPr; rw [if_pos (by omega)]; omega
      rw [if_pos (by omega), if_neg (by omega), if_neg (by omega), if_neg (by decide), np]
      exact e_fill67 hN l0 l1 (by omega) (by omega) (by omega) v 0 N s (by omega) (by omega) h (fun a b ha => by omega)
    · have np : nPr κ bell = 0 := by
        unfold nPr
        by_cases z : cln κ 0 bell = cln κ 1 bell ∧ cln κ 0 bell ≤ 6
        · rw [if_pos z]; omega
        · rw [if_neg z]
      have n0 := none0 np
      by_cases q6 : 6 < v
      · simp only [q6, if_true, ite_self]; exact n0
      · have : ¬ (¬ (0 ≤ (v : Int) ∧ (v : Int) < (cln κ 1 bell : Int)) ∧ (0 ≤ (v : Int) - 1 ∧ (v : Int) - 1 < (cln κ 1 bell : Int))) := by omega
        by_cases z1 : ¬ (0 ≤ (v : Int) ∧ (v : Int) < (cln κ 1 bell : Int))
        · rw [if_pos z1, if_pos (fun z => this ⟨z1, z⟩), if_neg q6]; exact n0
        · rw [if_neg z1, if_neg q6]; exact n0
  have loop : ∀ (d v f : Nat), v + d = 7 → d < f → v ≤ cln κ 0 bell → ∃ s', fX3_crossAll_l2 N f (zI bell) (zI v) s = some (zI (nPr κ bell : Nat), s') ∧ cpv σ κ s' ∧ (∀ a b, a < nPr κ bell → b < nPr κ bell → bt (gi s' 67 a) b = prB κ bell a b) := by
    intro d
    induction d with
    | zero =>
      intro v f hv hf hc
      obtain ⟨f, rfl⟩ : ∃ x, f = x + 1 := ⟨f - 1, by omega⟩
      show ∃ s', fX3_crossAll_s2 N _ (zI bell) (zI v) s = _ ∧ _
      unfold fX3_crossAll_s2
      have c6 : ((6 : Int32) < zI (v : Int)) = True := by rw [show (6 : Int32) = zI 6 from rfl, zI_lt (by omega) (by omega) (by omega) (by omega)]; exact eq_true (by omega)
      simp only [c6, if_true]
      exact fin v (by omega) (by omega)
    | succ d ih =>
      intro v f hv hf hc
      obtain ⟨f, rfl⟩ : ∃ x, f = x + 1 := ⟨f - 1, by omega⟩
      show ∃ s', fX3_crossAll_s2 N _ (zI bell) (zI v) s = _ ∧ _
      unfold fX3_crossAll_s2
      have c6 : ((6 : Int32) < zI (v : Int)) = False := by rw [show (6 : Int32) = zI 6 from rfl, zI_lt (by omega) (by omega) (by omega) (by omega)]; exact eq_false (by omega)
      obtain ⟨y1, e1, x1, _⟩ := fh 0 (v : Int) (by omega) (by omega) (by omega)
      have e1' : fX3_freshHeard N 0 (zI bell) (zI v) s = some y1 := e1
      simp only [c6, if_false, e1', Option.bind_some, x1]
      by_cases z : ¬ (0 ≤ (v : Int) ∧ (v : Int) < (cln κ 0 bell : Int))
      · rw [if_pos z]
        exact fin v (by omega) (by omega)
      · rw [if_neg z, show zI (v : Int) + 1 = zI ((v + 1 : Nat) : Int) by rw [show (1 : Int32) = zI 1 from rfl, zI_add]; rfl]
        exact ih (v + 1) f (by omega) (by omega) (by omega)
  exact loop 7 0 N (by omega) (by omega) (by omega)
