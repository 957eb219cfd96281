/-! no joining is greater: all rows -/
def kJ (E : Nat → Nat → Bool) (n v : Nat) (m : Nat → Option Nat) (F W : Nat → Bool) : Prop := kOK E m ∧ kInj m ∧ fb_ct (fun k => (m k).isSome) 24 = v ∧ v + fb_ct F n = n ∧ kCl E (fun k => W k = true) m ∧ (∀ i, i < n → F i = true → ∀ l, l < 24 → E i l = true → W l = true) ∧ ∀ k, k < 24 → ∀ a, m k = some a → a < n ∧ F a = false
theorem kJ_fail {E : Nat → Nat → Bool} {i v : Nat} {m : Nat → Option Nat} {F W T : Nat → Bool} (h : kJ E i v m F W) (g : kF E i 24 m (fun _ => false) T) : kJ E (i + 1) v m (upB F i true) (fun l => W l || T l) := by
  obtain ⟨h1, h2, h3, h4, h5, h6, h7⟩ := h
  refine ⟨h1, h2, h3, ?_, fun k hk hw => ?_, fun a ha hf l hl he => ?_, fun k hk a e => ?_⟩
  · have e1 : fb_ct (upB F i true) i = fb_ct F i := fb_ct_cong (fun k hk => by unfold upB; rw [if_neg (by omega)])
    have e2 : upB F i true i = true := by unfold upB; rw [if_pos rfl]
    rw [fb_ct_succ, e1, e2, if_pos rfl]
    omega
  · cases z : W k with
    | true =>
      obtain ⟨a, a1, a2, a3⟩ := h5 k hk z
      exact ⟨a, a1, a2, fun l hl he => by show (W l || T l) = true; rw [a3 l hl he]; rfl⟩
    | false =>
      have hw' : (W k || T k) = true := hw
      rw [z, Bool.false_or] at hw'
      obtain ⟨a, a1, a2, a3⟩ := g.2.2 k hk hw' rfl
      exact ⟨a, a1, a2, fun l hl he => by show (W l || T l) = true; rw [a3 l hl he, Bool.or_true]⟩
  · show (W l || T l) = true
    by_cases q : a = i
    · subst q
      rw [g.2.1 l hl he, Bool.or_true]
    · unfold upB at hf
      rw [if_neg q] at hf
      rw [h6 a (by omega) hf l hl he]; rfl
  · obtain ⟨a1, a2⟩ := h7 k hk a e
    refine ⟨by omega, ?_⟩
    unfold upB
    rw [if_neg (by omega)]; exact a2
theorem kJ_good {E : Nat → Nat → Bool} {i v : Nat} {m m' : Nat → Option Nat} {F W : Nat → Bool} (h : kJ E i v m F W) (g : kS E i m (fun _ => false) m') : kJ E (i + 1) (v + 1) m' (upB F i false) W := by
  obtain ⟨h1, h2, h3, h4, h5, h6, h7⟩ := h
  obtain ⟨g1, g2, ⟨c, c1, c2, c3, c4⟩, g4, g5⟩ := g
  have no : ∀ k, k < 24 → ¬ m k = some i := fun k hk e => by have := (h7 k hk i e).1; omega
  refine ⟨g4, fun a b x ha hb x1 x2 => ?_, ?_, ?_, fun k hk hw => ?_, fun a ha hf l hl he => ?_, fun k hk a e => ?_⟩
  · rcases g1 a b x ha hb x1 x2 with z | ⟨_, z⟩
    · exact z
    · rcases z with z | z
      · exact absurd z (no a ha)
      · exact absurd z (no b hb)
  · have e1 : fb_ct (fun k => (m' k).isSome) 24 = fb_ct (fun k => if k = c then true else (m k).isSome) 24 := fb_ct_cong (fun k hk => by
      by_cases q : k = c
      · rw [if_pos q, q]
        cases z : m' c with
        | none => exact absurd z c3
        | some a => rfl
      · rw [if_neg q]
        have := c4 k hk q
        cases z : m' k with
        | none => rw [this.mp z]
        | some a =>
          cases y : m k with
          | none => rw [this.mpr y] at z; cases z
          | some b => rfl)
    have u := fb_ct_upd (fun k => (m k).isSome) true c1
    rw [if_pos rfl, c2, if_neg (by decide)] at u
    rw [e1, ← h3]
    exact u
  · have e1 : fb_ct (upB F i false) i = fb_ct F i := fb_ct_cong (fun k hk => by unfold upB; rw [if_neg (by omega)])
    have e2 : upB F i false i = false := by unfold upB; rw [if_pos rfl]
    rw [fb_ct_succ, e1, e2, if_neg (by decide)]
    omega
  · rw [(g5 (fun k => W k = true) h5).1 k hk hw]
    exact h5 k hk hw
  · unfold upB at hf
    by_cases q : a = i
    · rw [if_pos q] at hf; cases hf
    · rw [if_neg q] at hf
      exact h6 a (by omega) hf l hl he
  · unfold upB
    rcases g2 k hk a e with z | ⟨l, l1, l2, _⟩
    · rw [if_pos z]; exact ⟨by omega, rfl⟩
    · obtain ⟨a1, a2⟩ := h7 l l1 a l2
      rw [if_neg (by omega)]; exact ⟨by omega, a2⟩
theorem k_join {N R : Nat} {E : Nat → Nat → Bool} {σ : qMem} (hN : 200000 ≤ N) (hR : R = 74 ∨ R = 75) (hE : ∀ i k, i < 24 → k < 24 → bt (gi σ R i) k = E i k) : ∃ (v : Nat) (s' : qMem) (m : Nat → Option Nat) (F W : Nat → Bool), fX4_join N R σ = some (zI v, s') ∧ kJ E 24 v m F W := by
  obtain ⟨σ0, e0, g0⟩ := Ho_get (e_fill (N := N) (k0 := 76) (n0 := 24) (v := -1) (σ := σ) hN (by omega))
  have main : ∀ (d i f v : Nat) (s : qMem) (m : Nat → Option Nat) (F W : Nat → Bool), i + d = 24 → d < f → (∀ k, k < 24 → gi s 76 k = oI (m k)) → (∀ i k, i < 24 → k < 24 → bt (gi s R i) k = E i k) → kJ E i v m F W → ∃ (w : Nat) (s' : qMem) (m' : Nat → Option Nat) (F' W' : Nat → Bool), fX4_join_l12 N R f (zI v) (zI i) s = some (zI w, s') ∧ kJ E 24 w m' F' W' := by
    intro d
    induction d with
    | zero =>
      intro i f v s m F W hi hf h1 h2 kj
      obtain ⟨f, rfl⟩ : ∃ x, f = x + 1 := ⟨f - 1, by omega⟩
      have : i = 24 := by omega
      subst this
      refine ⟨v, s, m, F, W, ?_, kj⟩
      show fX4_join_s12 N R _ (zI v) (zI (24 : Nat)) s = _
      unfold fX4_join_s12
      rw [if_pos (by decide)]
    | succ d ih =>
      intro i f v s m F W hi hf h1 h2 kj
      obtain ⟨f, rfl⟩ : ∃ x, f = x + 1 := ⟨f - 1, by omega⟩
      have c24 : (24 ≤ zI i) = False := by rw [show (24 : Int32) = zI 24 from rfl, zI_le (by omega) (by omega) (by omega) (by omega)]; exact eq_false (by omega)
      have st : kst R E (si s 73 4 0) m (fun _ => false) := ⟨fun k hk => by rw [gi_si, if_neg (by omega)]; exact h1 k hk, fun k hk => by rw [gi_si, if_pos ⟨rfl, rfl⟩]; exact b_0 k, fun a b ha hb => by rw [gi_si, if_neg (by omega)]; exact h2 a b ha hb⟩
      obtain ⟨s2, m2, V2, x, x1, x2, x3⟩ := k_one (N := N) (R := R) (E := E) hN hR 24 0 26 i (si s 73 4 0) m (fun _ => false) (by omega) (by omega) (by omega) (by omega) st kj.1 kj.2.1 (fun l hl z => by have := (kj.2.2.2.2.2.2 l hl i z).1; omega)
      have x1' : fX4_joinOne N 26 R (zI i) 0 (si s 73 4 0) = some (x, s2) := x1
      have nx : zI i + 1 = zI ((i + 1 : Nat) : Int) := by rw [show (1 : Int32) = zI 1 from rfl, zI_add]; rfl
      have eC : fX4_join_l12 N R (f + 1) (zI v) (zI i) s = if x = 0 then fX4_join_l12 N R f (zI v) (zI ((i + 1 : Nat) : Int)) s2 else fX4_join_l12 N R f (zI v + 1) (zI ((i + 1 : Nat) : Int)) s2 := by
        show fX4_join_s12 N R _ (zI v) (zI i) s = _
        unfold fX4_join_s12 fX4_join_b36
        simp only [c24, if_false, nmM, x1', Option.bind_some, nx]
      rw [eC]
      rcases x3 with ⟨z1, z2, z3⟩ | ⟨z1, z2⟩
      · subst z2
        rw [if_pos z1]
        exact ih (i + 1) f v s2 m2 _ _ (by omega) (by omega) x2.1 x2.2.2 (kJ_fail kj z3)
      · rw [if_neg (by rw [z1]; exact n10), show zI v + 1 = zI ((v + 1 : Nat) : Int) by rw [show (1 : Int32) = zI 1 from rfl, zI_add]; rfl]
        exact ih (i + 1) f (v + 1) s2 m2 _ _ (by omega) (by omega) x2.1 x2.2.2 (kJ_good kj z2)
  have k0 : kJ E 0 0 (fun _ => none) (fun _ => false) (fun _ => false) := ⟨fun k hk a e => (by cases e), fun a b x ha hb e => (by cases e), fb_ct_zero.mpr (fun _ _ => rfl), rfl, fun k hk e => (by cases e), fun i hi => (by omega), fun k hk a e => (by cases e)⟩
  unfold fX4_join
  rw [e0, Option.bind_some]
  exact main 24 0 N 0 σ0 (fun _ => none) (fun _ => false) (fun _ => false) (by omega) (by omega) (fun k hk => by rw [g0, if_pos ⟨rfl, hk⟩]; rfl) (fun i k hi hk => by rw [g0, if_neg (by omega)]; exact hE i k hi hk) k0
/-- fewer edges, no more are joined -/
theorem k_max {E E' : Nat → Nat → Bool} {v v' : Nat} {m m' : Nat → Option Nat} {F W F' W' : Nat → Bool} (h : kJ E 24 v m F W) (h' : kJ E' 24 v' m' F' W') (sub : ∀ i k, i < 24 → k < 24 → E' i k = true → E i k = true) : v' ≤ v := by
  obtain ⟨h1, h2, h3, h4, h5, h6, h7⟩ := h
  obtain ⟨g1, g2, g3, -⟩ := h'
  let A : Nat → Bool := fun a => (List.range 24).any fun k => W k && (m k == some a)
  have hA : ∀ a, A a = true ↔ ∃ k, k < 24 ∧ W k = true ∧ m k = some a := fun a => by
    simp [A, List.any_eq_true, List.mem_range]
  have w1 : fb_ct W 24 ≤ fb_ct A 24 := by
    refine ct_inj (f := fun k => (m k).getD 0) 24 W A (fun k hk hw => ?_) (fun k l hk hl pk pl e => ?_)
    · obtain ⟨a, a1, a2, _⟩ := h5 k hk hw
      simp only [a2, Option.getD_some]
      exact ⟨a1, (hA a).mpr ⟨k, hk, hw, a2⟩⟩
    · obtain ⟨a, a1, a2, _⟩ := h5 k hk pk
      obtain ⟨b, b1, b2, _⟩ := h5 l hl pl
      simp only [a2, b2, Option.getD_some] at e
      exact h2 k l a hk hl a2 (by rw [e]; exact b2)
  have d1 : fb_ct (fun k => F k || A k) 24 = fb_ct F 24 + fb_ct A 24 := fb_ct_or (fun k hk ⟨z1, z2⟩ => by
    obtain ⟨l, l1, _, l3⟩ := (hA k).mp z2
    rw [(h7 l l1 k l3).2] at z1
    cases z1)
  have d2 := fb_ct_not (fun k => F k || A k) 24
  have s1 : fb_ct (fun k => (m' k).isSome) 24 = fb_ct (fun k => ((m' k).isSome && W k) || ((m' k).isSome && !W k)) 24 := fb_ct_cong (fun k _ => by cases (m' k).isSome <;> cases W k <;> rfl)
  have s2 : fb_ct (fun k => ((m' k).isSome && W k) || ((m' k).isSome && !W k)) 24 = fb_ct (fun k => (m' k).isSome && W k) 24 + fb_ct (fun k => (m' k).isSome && !W k) 24 := fb_ct_or (fun k _ ⟨z1, z2⟩ => by
    cases z : W k with
    | true => rw [z] at z2; simp at z2
    | false => rw [z] at z1; simp at z1)
  have s3 : fb_ct (fun k => (m' k).isSome && W k) 24 ≤ fb_ct W 24 := fb_ct_sub (fun k _ z => (Bool.and_eq_true_iff.mp z).2)
  have s4 : fb_ct (fun k => (m' k).isSome && !W k) 24 ≤ fb_ct (fun k => !(F k || A k)) 24 := by
    have ex : ∀ k, ((m' k).isSome && !W k) = true → ∃ a, m' k = some a ∧ W k = false := fun k z => by
      obtain ⟨z1, z2⟩ := Bool.and_eq_true_iff.mp z
      obtain ⟨a, e⟩ := Option.isSome_iff_exists.mp z1
      exact ⟨a, e, by simpa using z2⟩
    refine ct_inj (f := fun k => (m' k).getD 0) 24 _ _ (fun k hk hw => ?_) (fun k l hk hl pk pl e => ?_)
    · obtain ⟨a, a2, wk⟩ := ex k hw
      obtain ⟨a1, ae⟩ := g1 k hk a a2
      have ae' := sub a k a1 hk ae
      simp only [a2, Option.getD_some]
      refine ⟨a1, ?_⟩
      cases z1 : F a with
      | true => rw [h6 a a1 z1 k hk ae'] at wk; cases wk
      | false =>
        cases z2 : A a with
        | true =>
          obtain ⟨l, l1, l2, l3⟩ := (hA a).mp z2
          obtain ⟨b, _, b2, b3⟩ := h5 l l1 l2
          rw [l3] at b2
          cases b2
          rw [show W k = true from b3 k hk ae'] at wk
          cases wk
        | false => rfl
    · obtain ⟨a, a2, _⟩ := ex k pk
      obtain ⟨b, b2, _⟩ := ex l pl
      simp only [a2, b2, Option.getD_some] at e
      exact g2 k l a hk hl a2 (by rw [e]; exact b2)
  omega
