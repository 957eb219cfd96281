/-! pairings: the reference -/
def rpv (τ : qMem) (κ : Nat → Int32) (s : qMem) : Prop := newsOK s.1 κ ∧ RC s.1 κ ∧ SM τ s
theorem rpv_s {τ s s' : qMem} {κ : Nat → Int32} (h : rpv τ κ s) (f : ∀ k j, ¬ (14 ≤ k ∧ k ≤ 16) → gi s' k j = gi s k j) : rpv τ κ s' := by
  refine ⟨newsOK_c (t := s.1) (t' := s'.1) (fun k j q => f k j (by omega)) h.1, RC_c (t := s.1) (t' := s'.1) (fun k j q => f k j (by omega)) h.2.1, SM_trans h.2.2 (fun k j q => f k j ?_)⟩
  unfold scrM at q
  omega
theorem r_nf {N : Nat} {τ s : qMem} {κ : Nat → Int32} {b : Nat} {bell T : Int} (hN : 200000 ≤ N) (kw : KW κ) (h : rpv τ κ s) (hb : b < 2) (l0 : 0 ≤ bell) (l1 : bell ≤ 23) (t0 : -2147483648 ≤ T) (t1 : T < 2147483648) : ∃ v : Int32, fX12_newOf N (zI b) (zI bell) (zI T) s = some v ∧ ((v = -1) = ¬ (0 ≤ T ∧ T < (cln κ b bell : Int))) ∧ (0 ≤ T ∧ T < (cln κ b bell : Int) → ∃ (i : Nat) (it : Bool × Nat), v = zI i ∧ (newsL κ)[i]? = some it ∧ (crossL κ b bell)[T.toNat]? = some it) := by
  obtain ⟨v, e, x⟩ := Ho_get (r_newOf (N := N) (τ := s) (T := T) hN h.1 kw hb l0 l1 t0 t1)
  refine ⟨v, e, ?_, ?_⟩
  · rcases x with ⟨s0, i, it, rfl, g, k⟩ | ⟨rfl, z⟩
    · have b1 := (List.getElem?_eq_some_iff.mp g).1
      have b2 := (List.getElem?_eq_some_iff.mp k).1
      have f2 := newsL_len kw.2.2.1 kw.2.2.2.1
      rw [show (-1 : Int32) = zI (-1) from rfl, zI_eq (by omega) (by omega) (by omega) (by omega)]
      unfold cln
      exact propext ⟨fun z => by omega, fun z => absurd ⟨s0, by omega⟩ z⟩
    · unfold cln
      exact propext ⟨fun _ => by omega, fun _ => rfl⟩
  · intro ⟨c1, c2⟩
    rcases x with ⟨s0, i, it, rfl, g, k⟩ | ⟨rfl, z⟩
    · exact ⟨i, it, rfl, g, k⟩
    · unfold cln at c2; omega
theorem r_pair {N : Nat} {τ s : qMem} {κ : Nat → Int32} {bell : Int} {i k : Nat} (hN : 200000 ≤ N) (hκ : τ.1 2 = κ) (hv : 0 ≤ (gi τ 0 2).toInt) (kw : KW κ) (h : rpv τ κ s) (l0 : 0 ≤ bell) (l1 : bell ≤ 23) (hi : i < cln κ 0 bell) (hk : k < cln κ 1 bell) : ∃ (y5 y6 : Int32) (M : Nat) (s' : qMem), fX12_newOf N 0 (zI bell) (zI i) s = some y5 ∧ fX12_newOf N 1 (zI bell) (zI k) s = some y6 ∧ fX12_crosses N (zI bell) y5 y6 s = some (zI M, s') ∧ (zI (M : Int) ≤ 0) = (prB κ bell i k = false) ∧ rpv τ κ s' ∧ ∀ a j, a ≠ 5 → a ≠ 0 → gi s' a j = gi s a j := by
  have d0 := cln_le (κ := κ) (b := 0) (bell := bell) kw
  have d1 := cln_le (κ := κ) (b := 1) (bell := bell) kw
  obtain ⟨y5, e5, _, z5⟩ := r_nf (b := 0) (T := (i : Int)) hN kw h (by omega) l0 l1 (by omega) (by omega)
  obtain ⟨y6, e6, _, z6⟩ := r_nf (b := 1) (T := (k : Int)) hN kw h (by omega) l0 l1 (by omega) (by omega)
  obtain ⟨n5, it5, rfl, g5, k5⟩ := z5 ⟨by omega, by omega⟩
  obtain ⟨n6, it6, rfl, g6, k6⟩ := z6 ⟨by omega, by omega⟩
  obtain ⟨⟨v, s3⟩, ec, c1, c2⟩ := Ho_get (r_crosses (N := N) (τ0 := s) hN ((SM_κ h.2.2).trans hκ) kw h.1 (RS_refl h.2.1.2.2.2.1) g5 g6 l0 l1)
  have c1' : v = zI (crsN κ bell it5 it6 : Nat) := c1
  have c2' : RS s κ s3 := c2
  obtain ⟨r1, r2⟩ := RS_RC c2' h.2.1 (Inv_v2 h.2.2 hv)
  have ml := crsN_le κ bell it5 it6
  refine ⟨zI n5, zI n6, crsN κ bell it5 it6, s3, e5, e6, by rw [ec, c1'], ?_, ⟨RS_news c2' h.1, r1, SM_trans h.2.2 r2⟩, fun a j h1 h2 => c2'.1 a j h1 (by omega)⟩
  rw [show (0 : Int32) = zI 0 from rfl, zI_le (by omega) (by omega) (by omega) (by omega)]
  have : prB κ bell i k = decide (0 < crsN κ bell it5 it6) := by
    unfold prB
    rw [show (i : Int).toNat = i by omega] at k5
    rw [show (k : Int).toNat = k by omega] at k6
    rw [k5, k6]; rfl
  rw [this, decide_eq_false_iff_not]
  exact propext (by omega)
theorem r_fill14 {N n : Nat} {τ : qMem} {κ : Nat → Int32} {bell : Int} (hN : 200000 ≤ N) (hκ : τ.1 2 = κ) (hv : 0 ≤ (gi τ 0 2).toInt) (kw : KW κ) (l0 : 0 ≤ bell) (l1 : bell ≤ 23) (hn : n ≤ 6) (h0 : cln κ 0 bell = n) (h1 : cln κ 1 bell = n) : ∀ (d i f : Nat) (s : qMem), i + d = n → d < f → rpv τ κ s → (∀ j, j < 36 → gi s 15 j = 0) → (∀ a b, a < i → b < n → bt (gi s 14 a) b = prB κ bell a b) → ∃ s', fX12_pairs_l56 N f (zI bell) (zI n) (zI i) s = fX12_pairs_l130 N N (zI n) 1 0 s' ∧ rpv τ κ s' ∧ (∀ j, j < 36 → gi s' 15 j = 0) ∧ (∀ a b, a < n → b < n → bt (gi s' 14 a) b = prB κ bell a b) := by
  intro d
  induction d with
  | zero =>
    intro i f s hi hf hc hz hr
    obtain ⟨f, rfl⟩ : ∃ x, f = x + 1 := ⟨f - 1, by omega⟩
    have : i = n := by omega
    subst this
    refine ⟨s, ?_, hc, hz, hr⟩
    show fX12_pairs_s56 N _ (zI bell) (zI i) (zI i) s = _
    unfold fX12_pairs_s56
    have c1 : (zI (i : Int) ≤ zI (i : Int)) = True := by rw [zI_le (by omega) (by omega) (by omega) (by omega)]; exact eq_true (by omega)
    simp only [c1, if_true]
  | succ d ih =>
    intro i f s hi hf hc hz hr
    obtain ⟨f, rfl⟩ : ∃ x, f = x + 1 := ⟨f - 1, by omega⟩
    show ∃ s', fX12_pairs_s56 N _ (zI bell) (zI n) (zI i) s = _ ∧ _
    unfold fX12_pairs_s56
    have c1 : (zI (n : Int) ≤ zI (i : Int)) = False := by rw [zI_le (by omega) (by omega) (by omega) (by omega)]; exact eq_false (by omega)
    have ki : (ck (zI (i : Int)) 6 = true) = True := zI_ckT (by omega) (by omega) (by omega)
    have zi : (zI (i : Int)).toNatClampNeg = i := by rw [zI_clamp (by omega) (by omega)]; omega
    simp only [c1, if_false, ki, zi, if_true, nmM]
    have p14 : ∀ (u : qMem) (w : Int32), rpv τ κ u → rpv τ κ (si u 14 i w) := fun u w hu => rpv_s hu (fun k j q => by rw [gi_si, if_neg (by omega)])
    have inner : ∀ (e k g : Nat) (u : qMem), k + e = n → e < g → rpv τ κ u → (∀ j, j < 36 → gi u 15 j = 0) → (∀ a b, a < i → b < n → bt (gi u 14 a) b = prB κ bell a b) → (∀ b, b < n → bt (gi u 14 i) b = (decide (b < k) && prB κ bell i b)) → ∃ u', fX12_pairs_l71 N (fX12_pairs_l56 N f) g (zI bell) (zI n) (zI i) (zI k) u = fX12_pairs_l56 N f (zI bell) (zI n) (zI ((i + 1 : Nat) : Int)) u' ∧ rpv τ κ u' ∧ (∀ j, j < 36 → gi u' 15 j = 0) ∧ (∀ a b, a < i + 1 → b < n → bt (gi u' 14 a) b = prB κ bell a b) := by
      intro e
      induction e with
      | zero =>
        intro k g u hk hg hu hz' h1' h2'
        obtain ⟨g, rfl⟩ : ∃ x, g = x + 1 := ⟨g - 1, by omega⟩
        have : k = n := by omega
        subst this
        refine ⟨u, ?_, hu, hz', fun a b ha hb => ?_⟩
        · show fX12_pairs_s71 N _ _ (zI bell) (zI k) (zI i) (zI k) u = _
          unfold fX12_pairs_s71
          have c1 : (zI (k : Int) ≤ zI (k : Int)) = True := by rw [zI_le (by omega) (by omega) (by omega) (by omega)]; exact eq_true (by omega)
          simp only [c1, if_true]
          rw [show zI (i : Int) + 1 = zI ((i + 1 : Nat) : Int) by rw [show (1 : Int32) = zI 1 from rfl, zI_add]; rfl]
        · by_cases z : a = i
          · rw [z, h2' b hb, decide_eq_true hb, Bool.true_and]
          · exact h1' a b (by omega) hb
      | succ e ihe =>
        intro k g u hk hg hu hz' h1' h2'
        obtain ⟨g, rfl⟩ : ∃ x, g = x + 1 := ⟨g - 1, by omega⟩
        show ∃ u', fX12_pairs_s71 N _ _ (zI bell) (zI n) (zI i) (zI k) u = _ ∧ _
        unfold fX12_pairs_s71 fX12_pairs_b113
        have c1 : (zI (n : Int) ≤ zI (k : Int)) = False := by rw [zI_le (by omega) (by omega) (by omega) (by omega)]; exact eq_false (by omega)
        obtain ⟨y5, y6, M, u1, e1, e2, e3, e4, e5, e6⟩ := r_pair (i := i) (k := k) hN hκ hv kw hu l0 l1 (by omega) (by omega)
        have e14 : ∀ a, gi u1 14 a = gi u 14 a := fun a => e6 14 a (by omega) (by omega)
        have e15 : ∀ a, gi u1 15 a = gi u 15 a := fun a => e6 15 a (by omega) (by omega)
        simp only [c1, if_false, e1, e2, e3, e4, Option.bind_some, ki, zi, if_true, nmM]
        rw [show zI (k : Int) + 1 = zI ((k + 1 : Nat) : Int) by rw [show (1 : Int32) = zI 1 from rfl, zI_add]; rfl]
        cases q : prB κ bell i k with
        | false =>
          rw [if_pos rfl]
          refine ihe (k + 1) g u1 (by omega) (by omega) e5 (fun j hj => by rw [e15]; exact hz' j hj) (fun a b ha hb => by rw [e14]; exact h1' a b ha hb) (fun b hb => ?_)
          rw [e14, h2' b hb]
          by_cases z : b = k
          · rw [z, q, Bool.and_false, Bool.and_false]
          · by_cases y : b < k
            · rw [decide_eq_true y, decide_eq_true (by omega)]
            · rw [decide_eq_false y, decide_eq_false (by omega)]
        | true =>
          rw [if_neg (by decide)]
          refine ihe (k + 1) g _ (by omega) (by omega) (p14 _ _ e5) (fun j hj => by rw [gi_si, if_neg (by omega), e15]; exact hz' j hj) (fun a b ha hb => by rw [gi_si, if_neg (by omega), e14]; exact h1' a b ha hb) (fun b hb => ?_)
          rw [gi_si, if_pos ⟨rfl, rfl⟩, e14, bt_or1 (by omega) (by omega), h2' b hb]
          by_cases z : b = k
          · rw [z, q, decide_eq_true rfl, Bool.or_true, decide_eq_true (by omega)]; rfl
          · by_cases y : b < k
            · rw [decide_eq_true y, decide_eq_true (show b < k + 1 by omega), decide_eq_false z, Bool.or_false]
            · rw [decide_eq_false y, decide_eq_false (show ¬ b < k + 1 by omega), decide_eq_false z]; rfl
    obtain ⟨u', f1, f2, f3, f4⟩ := inner n 0 N (si s 14 i 0) (by omega) (by omega) (p14 _ _ hc) (fun j hj => by rw [gi_si, if_neg (by omega)]; exact hz j hj) (fun a b ha hb => by rw [gi_si, if_neg (by omega)]; exact hr a b ha hb) (fun b hb => by rw [gi_si, if_pos ⟨rfl, rfl⟩, b_0 b, decide_eq_false (by omega)]; rfl)
    have f1' : fX12_pairs_l71 N (fX12_pairs_l56 N f) N (zI bell) (zI n) (zI i) 0 (si s 14 i 0) = _ := f1
    rw [f1']
    exact ih (i + 1) f u' (by omega) (by omega) f2 f3 f4
/-- how many are heard -/
theorem r_newsOf {N : Nat} {τ s : qMem} {κ : Nat → Int32} {b : Nat} {bell : Int} (hN : 200000 ≤ N) (kw : KW κ) (h : rpv τ κ s) (hb : b < 2) (l0 : 0 ≤ bell) (l1 : bell ≤ 23) : fX12_newsOf N (zI b) (zI bell) s = some (zI (cln κ b bell : Nat)) := by
  have d0 := cln_le (κ := κ) (b := b) (bell := bell) kw
  have loop : ∀ (d v f : Nat), v + d = cln κ b bell → d < f → fX12_newsOf_l2 N s f (zI b) (zI bell) (zI v) = some (zI (cln κ b bell : Nat)) := by
    intro d
    induction d with
    | zero =>
      intro v f hv hf
      obtain ⟨f, rfl⟩ : ∃ x, f = x + 1 := ⟨f - 1, by omega⟩
      obtain ⟨y, e, x, _⟩ := r_nf (b := b) (T := (v : Int)) hN kw h hb l0 l1 (by omega) (by omega)
      show fX12_newsOf_s2 N _ (zI b) (zI bell) (zI v) s = _
      unfold fX12_newsOf_s2
      simp only [e, Option.bind_some, x]
      rw [if_pos (by omega), show v = cln κ b bell by omega]
    | succ d ih =>
      intro v f hv hf
      obtain ⟨f, rfl⟩ : ∃ x, f = x + 1 := ⟨f - 1, by omega⟩
      obtain ⟨y, e, x, _⟩ := r_nf (b := b) (T := (v : Int)) hN kw h hb l0 l1 (by omega) (by omega)
      show fX12_newsOf_s2 N _ (zI b) (zI bell) (zI v) s = _
      unfold fX12_newsOf_s2
      simp only [e, Option.bind_some, x]
      rw [if_neg (by omega), show zI (v : Int) + 1 = zI ((v + 1 : Nat) : Int) by rw [show (1 : Int32) = zI 1 from rfl, zI_add]; rfl]
      exact ih (v + 1) f (by omega) (by omega)
  exact loop (cln κ b bell) 0 N (by omega) (by omega)
theorem pow_le6 : ∀ n, n ≤ 6 → ∀ i, i ≤ n → n ^ i ≤ 46656 := by decide
/-- all: how many, and of each pair -/
theorem r_pairs {N : Nat} {τ t : qMem} {κ : Nat → Int32} {bell : Int} (hN : 200000 ≤ N) (hκ : τ.1 2 = κ) (hv : 0 ≤ (gi τ 0 2).toInt) (kw : KW κ) (l0 : 0 ≤ bell) (l1 : bell ≤ 23) (hs : SM τ t) (hrc : RC t.1 κ) : ∃ t', fX12_pairs N (zI bell) t = some (zI (if nPr κ bell = 0 then 0 else fb_ct (gdc (nPr κ bell) (prB κ bell) (nPr κ bell) 0 (fun _ => false)) (nPr κ bell ^ nPr κ bell) : Nat), t') ∧ rpv τ κ t' ∧ (nPr κ bell ≠ 0 → ∀ a b, a < nPr κ bell → b < nPr κ bell → gi t' 15 (6 * a + b) = zI (fb_ct (fun c => gdc (nPr κ bell) (prB κ bell) (nPr κ bell) 0 (fun _ => false) c && decide (dgt (nPr κ bell) c a = b)) (nPr κ bell ^ nPr κ bell) : Nat)) := by
  obtain ⟨t1, et, n1, n2⟩ := Ho_get (r_laysNews hN (τ := t) ((SM_κ hs).trans hκ) kw)
  have p1 : rpv τ κ t1 := ⟨n1, RC_news hrc n1 (fun k j => n2 k j), SM_trans hs (SM_news n2)⟩
  unfold fX12_pairs
  rw [et, Option.bind_some]
  have d0 := cln_le (κ := κ) (b := 0) (bell := bell) kw
  have d1 := cln_le (κ := κ) (b := 1) (bell := bell) kw
  -- the cells are cleared
  have clr : ∀ (d i f : Nat) (u : qMem), i + d = 36 → d < f → rpv τ κ u → (∀ j, j < i → gi u 15 j = 0) → ∃ u', fX12_pairs_l6 N f (zI bell) (zI i) u = ((fX12_newsOf N 0 (zI bell) u').bind fun y2 => (if y2 = 0 then (some (0, u')) else ((fX12_newsOf N 1 (zI bell) u').bind fun y3 => (if y2 = y3 then (if y2 ≤ 6 then (fX12_pairs_l56 N N (zI bell) y2 0 u') else (some (0, u'))) else (some (0, u')))))) ∧ rpv τ κ u' ∧ (∀ j, j < 36 → gi u' 15 j = 0) := by
    intro d
    induction d with
    | zero =>
      intro i f u hi hf hu hz
      obtain ⟨f, rfl⟩ : ∃ x, f = x + 1 := ⟨f - 1, by omega⟩
      have : i = 36 := by omega
      subst this
      refine ⟨u, ?_, hu, hz⟩
      show fX12_pairs_s6 N _ (zI bell) (zI (36 : Nat)) u = _
      unfold fX12_pairs_s6
      rw [if_pos (by decide)]
    | succ d ih =>
      intro i f u hi hf hu hz
      obtain ⟨f, rfl⟩ : ∃ x, f = x + 1 := ⟨f - 1, by omega⟩
      show ∃ u', fX12_pairs_s6 N _ (zI bell) (zI i) u = _ ∧ _
      unfold fX12_pairs_s6
      have c36 : ((36 : Int32) ≤ zI (i : Int)) = False := by rw [show (36 : Int32) = zI 36 from rfl, zI_le (by omega) (by omega) (by omega) (by omega)]; exact eq_false (by omega)
      have ki : (ck (zI (i : Int)) 36 = true) = True := zI_ckT (by omega) (by omega) (by omega)
      have zi : (zI (i : Int)).toNatClampNeg = i := by rw [zI_clamp (by omega) (by omega)]; omega
      simp only [c36, if_false, ki, zi, if_true, nmM]
      rw [show zI (i : Int) + 1 = zI ((i + 1 : Nat) : Int) by rw [show (1 : Int32) = zI 1 from rfl, zI_add]; rfl]
      refine ih (i + 1) f _ (by omega) (by omega) (rpv_s hu (fun k j q => by rw [gi_si, if_neg (by omega)])) (fun j hj => ?_)
      rw [gi_si]
      by_cases z : j = i
      · rw [if_pos ⟨rfl, z⟩]
      · rw [if_neg (by omega)]; exact hz j (by omega)
  obtain ⟨u, e1, p2, z2⟩ := clr 36 0 N t1 (by omega) (by omega) p1 (fun j hj => by omega)
  have e1' : fX12_pairs_l6 N N (zI bell) 0 t1 = _ := e1
  have w0 : fX12_newsOf N 0 (zI bell) u = some (zI (cln κ 0 bell : Nat)) := r_newsOf (b := 0) hN kw p2 (by omega) l0 l1
  have w1 : fX12_newsOf N 1 (zI bell) u = some (zI (cln κ 1 bell : Nat)) := r_newsOf (b := 1) hN kw p2 (by omega) l0 l1
  have c0 : (zI (cln κ 0 bell : Int) = 0) = (cln κ 0 bell = 0) := by rw [show (0 : Int32) = zI 0 from rfl, zI_eq (by omega) (by omega) (by omega) (by omega)]; exact propext (by omega)
  have ce : (zI (cln κ 0 bell : Int) = zI (cln κ 1 bell : Int)) = (cln κ 0 bell = cln κ 1 bell) := by rw [zI_eq (by omega) (by omega) (by omega) (by omega)]; exact propext (by omega)
  have c6 : (zI (cln κ 0 bell : Int) ≤ 6) = (cln κ 0 bell ≤ 6) := by rw [show (6 : Int32) = zI 6 from rfl, zI_le (by omega) (by omega) (by omega) (by omega)]; exact propext (by omega)
  rw [e1', w0, Option.bind_some]
  simp only [w1, Option.bind_some, c0, ce, c6]
  by_cases q : cln κ 0 bell = cln κ 1 bell ∧ cln κ 0 bell ≤ 6 ∧ cln κ 0 bell ≠ 0
  · have np : nPr κ bell = cln κ 0 bell := by unfold nPr; rw [if_pos (by omega)]
    rw [if_neg q.2.2, if_pos q.1, if_pos q.2.1, np, if_neg q.2.2]
    generalize hn : cln κ 0 bell = n at *
    obtain ⟨u2, f1, f2, f3, f4⟩ := r_fill14 (N := N) (n := n) hN hκ hv kw l0 l1 q.2.1 hn q.1.symm n 0 N u (by omega) (by omega) p2 z2 (fun a b ha => by omega)
    have f1' : fX12_pairs_l56 N N (zI bell) (zI n) 0 u = _ := f1
    rw [f1']
    -- n times n times ..
    have pw : ∀ (d i f : Nat), i + d = n → d < f → fX12_pairs_l130 N f (zI n) (zI ((n ^ i : Nat) : Int)) (zI i) u2 = fX12_pairs_l152 N N (zI n) (zI ((n ^ n : Nat) : Int)) 0 0 u2 := by
      intro d
      induction d with
      | zero =>
        intro i f hi hf
        obtain ⟨f, rfl⟩ : ∃ x, f = x + 1 := ⟨f - 1, by omega⟩
        have : i = n := by omega
        subst this
        show fX12_pairs_s130 N _ (zI i) _ (zI i) u2 = _
        unfold fX12_pairs_s130
        have c1 : (zI (i : Int) ≤ zI (i : Int)) = True := by rw [zI_le (by omega) (by omega) (by omega) (by omega)]; exact eq_true (by omega)
        simp only [c1, if_true]
      | succ d ih =>
        intro i f hi hf
        obtain ⟨f, rfl⟩ : ∃ x, f = x + 1 := ⟨f - 1, by omega⟩
        show fX12_pairs_s130 N _ (zI n) _ (zI i) u2 = _
        unfold fX12_pairs_s130
        have c1 : (zI (n : Int) ≤ zI (i : Int)) = False := by rw [zI_le (by omega) (by omega) (by omega) (by omega)]; exact eq_false (by omega)
        simp only [c1, if_false]
        rw [zI_mul, show zI (i : Int) + 1 = zI ((i + 1 : Nat) : Int) by rw [show (1 : Int32) = zI 1 from rfl, zI_add]; rfl, ← ih (i + 1) f (by omega) (by omega), Nat.pow_succ]
        rfl
    have pw' : fX12_pairs_l130 N N (zI n) 1 0 u2 = _ := pw n 0 N (by omega) (by omega)
    rw [pw']
    have X := pow_le6 n q.2.1 n (Nat.le_refl _)
    obtain ⟨t', g1, g2, g3⟩ := r_all (N := N) (n := n) (C := prB κ bell) (t0 := u2) hN (by omega) q.2.1 f4 (fun a b ha hb => f3 _ (by omega)) (X := n ^ n) (by omega) (n ^ n) 0 N u2 (by omega) (by omega) (fun _ _ _ _ => rfl) (fun a b ha hb => by rw [f3 _ (by omega)]; rfl)
    have g1' : fX12_pairs_l152 N N (zI n) (zI ((n ^ n : Nat) : Int)) 0 0 u2 = _ := g1
    rw [g1']
    exact ⟨t', rfl, rpv_s f2 (fun k j z => g2 k j (by omega) (by omega)), fun _ => g3⟩
  · have np : nPr κ bell = 0 := by
      unfold nPr
      by_cases z : cln κ 0 bell = cln κ 1 bell ∧ cln κ 0 bell ≤ 6
      · rw [if_pos z]; omega
      · rw [if_neg z]
    rw [np, if_pos rfl]
    refine ⟨u, ?_, p2, fun z => absurd rfl z⟩
    by_cases y1 : cln κ 0 bell = 0
    · rw [if_pos y1]; rfl
    · rw [if_neg y1]
      by_cases y2 : cln κ 0 bell = cln κ 1 bell
      · rw [if_pos y2, if_neg (by omega)]; rfl
      · rw [if_neg y2]; rfl
