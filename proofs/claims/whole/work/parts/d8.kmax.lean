/-! no joining is greater: what one search leaves -/
theorem ct_inj {f : Nat → Nat} {M : Nat} : ∀ (n : Nat) (p q : Nat → Bool), (∀ k, k < n → p k = true → f k < M ∧ q (f k) = true) → (∀ k l, k < n → l < n → p k = true → p l = true → f k = f l → k = l) → fb_ct p n ≤ fb_ct q M := by
  intro n
  induction n with
  | zero => intro p q _ _; exact Nat.zero_le _
  | succ n ih =>
    intro p q h1 h2
    rw [fb_ct_succ]
    by_cases e : p n = true
    · obtain ⟨a1, a2⟩ := h1 n (by omega) e
      have u := fb_ct_upd q false a1
      rw [a2] at u
      have := ih p (fun k => if k = f n then false else q k) (fun k hk pk => by
        obtain ⟨b1, b2⟩ := h1 k (by omega) pk
        refine ⟨b1, ?_⟩
        by_cases z : f k = f n
        · have := h2 k n (by omega) (by omega) pk e z
          omega
        · simp only [if_neg z]; exact b2) (fun k l hk hl pk pl z => h2 k l (by omega) (by omega) pk pl z)
      rw [if_pos e]
      rw [if_pos rfl, if_neg (by decide)] at u
      omega
    · rw [if_neg e]
      exact ih p q (fun k hk pk => h1 k (by omega) pk) (fun k l hk hl pk pl z => h2 k l (by omega) (by omega) pk pl z)
def upB {α : Type} (V : Nat → α) (k : Nat) (b : α) : Nat → α := fun x => if x = k then b else V x
def kOK (E : Nat → Nat → Bool) (m : Nat → Option Nat) : Prop := ∀ k, k < 24 → ∀ a, m k = some a → a < 24 ∧ E a k = true
def kInj (m : Nat → Option Nat) : Prop := ∀ a b x, a < 24 → b < 24 → m a = some x → m b = some x → a = b
def kCl (E : Nat → Nat → Bool) (W : Nat → Prop) (m : Nat → Option Nat) : Prop := ∀ k, k < 24 → W k → ∃ a, a < 24 ∧ m k = some a ∧ ∀ l, l < 24 → E a l = true → W l
/-- so far nothing was found for i -/
def kF (E : Nat → Nat → Bool) (i K : Nat) (m : Nat → Option Nat) (V V' : Nat → Bool) : Prop := (∀ l, l < 24 → V l = true → V' l = true) ∧ (∀ l, l < K → E i l = true → V' l = true) ∧ ∀ l, l < 24 → V' l = true → V l = false → ∃ a, a < 24 ∧ m l = some a ∧ ∀ x, x < 24 → E a x = true → V' x = true
/-- a place was found for i -/
def kS (E : Nat → Nat → Bool) (i : Nat) (m : Nat → Option Nat) (V : Nat → Bool) (m' : Nat → Option Nat) : Prop := (∀ a b x, a < 24 → b < 24 → m' a = some x → m' b = some x → a = b ∨ (x = i ∧ (m a = some i ∨ m b = some i))) ∧ (∀ b, b < 24 → ∀ x, m' b = some x → x = i ∨ ∃ l, l < 24 ∧ m l = some x ∧ (l = b ∨ V l = false)) ∧ (∃ c, c < 24 ∧ m c = none ∧ m' c ≠ none ∧ ∀ k, k < 24 → k ≠ c → (m' k = none ↔ m k = none)) ∧ kOK E m' ∧ ∀ W : Nat → Prop, kCl E W m → (∀ k, k < 24 → W k → m' k = m k) ∧ ¬ ∀ l, l < 24 → E i l = true → W l
theorem kF_0 {E : Nat → Nat → Bool} {i : Nat} {m : Nat → Option Nat} {V : Nat → Bool} : kF E i 0 m V V := ⟨fun _ _ h => h, fun l hl => by omega, fun l _ h h2 => by rw [h] at h2; cases h2⟩
theorem kF_skip {E : Nat → Nat → Bool} {i k : Nat} {m : Nat → Option Nat} {V T : Nat → Bool} (h : kF E i k m V T) (e : (E i k && !T k) = false) : kF E i (k + 1) m V T := by
  refine ⟨h.1, fun l hl he => ?_, h.2.2⟩
  by_cases q : l = k
  · subst q
    cases z : T l with
    | true => rfl
    | false => rw [he, z] at e; cases e
  · exact h.2.1 l (by omega) he
theorem kF_call {E : Nat → Nat → Bool} {i k a : Nat} {m : Nat → Option Nat} {V T T' : Nat → Bool} (h : kF E i k m V T) (hk : k < 24) (ha : a < 24) (e : m k = some a) (g : kF E a 24 m (upB T k true) T') : kF E i (k + 1) m V T' := by
  have up : ∀ l, l < 24 → T l = true → T' l = true := fun l hl z => g.1 l hl (by unfold upB; split; rfl; exact z)
  have uk : T' k = true := g.1 k hk (by unfold upB; rw [if_pos rfl])
  refine ⟨fun l hl z => up l hl (h.1 l hl z), fun l hl he => ?_, fun l hl z1 z2 => ?_⟩
  · by_cases q : l = k
    · rw [q]; exact uk
    · exact up l (by omega) (h.2.1 l (by omega) he)
  · by_cases q : l = k
    · subst q
      exact ⟨a, ha, e, fun x hx he => g.2.1 x hx he⟩
    · cases z : T l with
      | true =>
        obtain ⟨b, b1, b2, b3⟩ := h.2.2 l hl z z2
        exact ⟨b, b1, b2, fun x hx he => up x hx (b3 x hx he)⟩
      | false => exact g.2.2 l hl z1 (by unfold upB; rw [if_neg q]; exact z)
theorem kS_base {E : Nat → Nat → Bool} {i k : Nat} {m : Nat → Option Nat} {V : Nat → Bool} (hk : k < 24) (hi : i < 24) (ok : kOK E m) (inj : kInj m) (he : E i k = true) (e : m k = none) : kS E i m V (upB m k (some i)) := by
  refine ⟨fun a b x ha hb h1 h2 => ?_, fun b hb x h1 => ?_, ⟨k, hk, e, ?_, fun l hl hn => ?_⟩, fun l hl a h1 => ?_, fun W hW => ⟨fun l hl hw => ?_, fun hn => ?_⟩⟩
  · unfold upB at h1 h2
    by_cases q1 : a = k
    · by_cases q2 : b = k
      · exact Or.inl (q1.trans q2.symm)
      · rw [if_pos q1] at h1
        rw [if_neg q2] at h2
        cases h1
        exact Or.inr ⟨rfl, Or.inr h2⟩
    · rw [if_neg q1] at h1
      by_cases q2 : b = k
      · rw [if_pos q2] at h2
        cases h2
        exact Or.inr ⟨rfl, Or.inl h1⟩
      · rw [if_neg q2] at h2
        exact Or.inl (inj a b x ha hb h1 h2)
  · unfold upB at h1
    by_cases q1 : b = k
    · rw [if_pos q1] at h1; cases h1; exact Or.inl rfl
    · rw [if_neg q1] at h1; exact Or.inr ⟨b, hb, h1, Or.inl rfl⟩
  · unfold upB; rw [if_pos rfl]; exact fun z => by cases z
  · unfold upB; rw [if_neg hn]
  · unfold upB at h1
    by_cases q1 : l = k
    · rw [if_pos q1] at h1; cases h1; rw [q1]; exact ⟨hi, he⟩
    · rw [if_neg q1] at h1; exact ok l hl a h1
  · unfold upB
    by_cases q1 : l = k
    · obtain ⟨a, _, a2, _⟩ := hW l hl hw
      rw [q1, e] at a2
      cases a2
    · rw [if_neg q1]
  · obtain ⟨a, _, a2, _⟩ := hW k hk (hn k hk he)
    rw [e] at a2
    cases a2
theorem kS_call {E : Nat → Nat → Bool} {i k a : Nat} {m m' : Nat → Option Nat} {V T : Nat → Bool} (hk : k < 24) (hi : i < 24) (inj : kInj m) (sl : ∀ l, l < 24 → m l = some i → V l = true) (vt : ∀ l, l < 24 → V l = true → T l = true) (tk : T k = false) (he : E i k = true) (e : m k = some a) (g : kS E a m (upB T k true) m') : kS E i m V (upB m' k (some i)) := by
  obtain ⟨g1, g2, ⟨c, c1, c2, c3, c4⟩, g4, g5⟩ := g
  have vk : V k = false := by
    cases z : V k with
    | false => rfl
    | true => rw [vt k hk z] at tk; cases tk
  have ai : a ≠ i := fun z => by rw [z] at e; rw [sl k hk e] at vk; cases vk
  have vl : ∀ l, l < 24 → upB T k true l = false → V l = false := fun l hl z => by
    cases y : V l with
    | false => rfl
    | true =>
      unfold upB at z
      rw [vt l hl y] at z
      split at z <;> cases z
  have new : ∀ b, b < 24 → m' b = some i → m b = some i := fun b hb z => by
    rcases g2 b hb i z with y | ⟨l, l1, l2, l3⟩
    · exact absurd y.symm ai
    · rcases l3 with y | y
      · rw [← y]; exact l2
      · have := sl l l1 l2
        rw [vl l l1 y] at this
        cases this
  have ck : c ≠ k := fun z => by rw [z, e] at c2; cases c2
  refine ⟨fun p q x hp hq h1 h2 => ?_, fun b hb x h1 => ?_, ⟨c, c1, c2, ?_, fun l hl hn => ?_⟩, fun l hl b h1 => ?_, fun W hW => ?_⟩
  · unfold upB at h1 h2
    by_cases q1 : p = k
    · by_cases q2 : q = k
      · exact Or.inl (q1.trans q2.symm)
      · rw [if_pos q1] at h1
        rw [if_neg q2] at h2
        cases h1
        exact Or.inr ⟨rfl, Or.inr (new q hq h2)⟩
    · rw [if_neg q1] at h1
      by_cases q2 : q = k
      · rw [if_pos q2] at h2
        cases h2
        exact Or.inr ⟨rfl, Or.inl (new p hp h1)⟩
      · rw [if_neg q2] at h2
        rcases g1 p q x hp hq h1 h2 with z | ⟨_, z⟩
        · exact Or.inl z
        · rcases z with z | z
          · exact absurd (inj p k a hp hk z e) q1
          · exact absurd (inj q k a hq hk z e) q2
  · unfold upB at h1
    by_cases q1 : b = k
    · rw [if_pos q1] at h1; cases h1; exact Or.inl rfl
    · rw [if_neg q1] at h1
      rcases g2 b hb x h1 with z | ⟨l, l1, l2, l3⟩
      · rw [z]; exact Or.inr ⟨k, hk, e, Or.inr vk⟩
      · refine Or.inr ⟨l, l1, l2, ?_⟩
        rcases l3 with y | y
        · exact Or.inl y
        · exact Or.inr (vl l l1 y)
  · unfold upB; rw [if_neg ck]; exact c3
  · unfold upB
    by_cases q1 : l = k
    · rw [if_pos q1, q1, e]
      exact Iff.intro (fun z => by cases z) (fun z => by cases z)
    · rw [if_neg q1]; exact c4 l hl hn
  · unfold upB at h1
    by_cases q1 : l = k
    · rw [if_pos q1] at h1; cases h1; rw [q1]; exact ⟨hi, he⟩
    · rw [if_neg q1] at h1; exact g4 l hl b h1
  · obtain ⟨w1, w2⟩ := g5 W hW
    have nk : ¬ W k := fun hw => by
      obtain ⟨b, b1, b2, b3⟩ := hW k hk hw
      rw [e] at b2
      cases b2
      exact w2 b3
    refine ⟨fun l hl hw => ?_, fun hn => nk (hn k hk he)⟩
    unfold upB
    rw [if_neg (fun z => nk (by rw [← z]; exact hw))]
    exact w1 l hl hw
