/-! looks at cells: the greedy way is the best -/
def smN (f : Nat → Int) : Nat → Int
  | 0 => 0
  | n + 1 => smN f n + f n
theorem smN_le {f h : Nat → Int} : ∀ n, (∀ c, c < n → f c ≤ h c) → smN f n ≤ smN h n
  | 0, _ => Int.le_refl _
  | n + 1, e => by
    have a := smN_le n (fun c hc => e c (by omega))
    have b := e n (by omega)
    show smN f n + f n ≤ smN h n + h n
    omega
theorem smN_lt {f h : Nat → Int} {b : Nat} : ∀ n, b < n → (∀ c, c < n → f c ≤ h c) → f b < h b → smN f n < smN h n
  | 0, hb, _, _ => by omega
  | n + 1, hb, e, s => by
    show smN f n + f n < smN h n + h n
    have b1 := e n (by omega)
    by_cases q : b = n
    · subst q
      have a := smN_le b (fun c hc => e c (by omega))
      omega
    · have a := smN_lt n (by omega) (fun c hc => e c (by omega)) s
      omega
theorem smN_cong {f h : Nat → Int} (n : Nat) (e : ∀ c, c < n → f c = h c) : smN f n = smN h n := by
  have a := smN_le n (fun c hc => Int.le_of_eq (e c hc))
  have b := smN_le n (fun c hc => Int.le_of_eq (e c hc).symm)
  omega
theorem smN_sub (f h : Nat → Int) : ∀ n, smN (fun c => f c - h c) n = smN f n - smN h n
  | 0 => rfl
  | n + 1 => by
    show smN (fun c => f c - h c) n + (f n - h n) = smN f n + f n - (smN h n + h n)
    rw [smN_sub f h n]
    omega
theorem smN_const (t : Int) : ∀ n : Nat, smN (fun _ => t) n = t * n
  | 0 => by simp [smN]
  | n + 1 => by
    show smN (fun _ => t) n + t = t * ((n + 1 : Nat) : Int)
    rw [smN_const t n, show ((n + 1 : Nat) : Int) = (n : Int) + 1 from rfl, Int.mul_add, Int.mul_one]
theorem smN_mul (t : Int) (f : Nat → Int) : ∀ n : Nat, smN (fun c => t * f c) n = t * smN f n
  | 0 => by simp [smN]
  | n + 1 => by
    show smN (fun c => t * f c) n + t * f n = t * (smN f n + f n)
    rw [smN_mul t f n, Int.mul_add]
theorem smN_up {f : Nat → Int} (x : Nat) : ∀ d, (∀ j, x ≤ j → j < x + d → 0 ≤ f j) → smN f x ≤ smN f (x + d)
  | 0, _ => Int.le_refl _
  | d + 1, e => by
    have a := smN_up x d (fun j h1 h2 => e j h1 (by omega))
    have b := e (x + d) (by omega) (by omega)
    show smN f x ≤ smN f (x + d) + f (x + d)
    omega
theorem smN_dn {f : Nat → Int} (x : Nat) : ∀ d, (∀ j, x ≤ j → j < x + d → f j ≤ 0) → smN f (x + d) ≤ smN f x
  | 0, _ => Int.le_refl _
  | d + 1, e => by
    have a := smN_dn x d (fun j h1 h2 => e j h1 (by omega))
    have b := e (x + d) (by omega) (by omega)
    show smN f (x + d) + f (x + d) ≤ smN f x
    omega
theorem smN_dns {f : Nat → Int} (x d : Nat) (e : ∀ j, x ≤ j → j < x + (d + 1) → f j ≤ 0) (s : f x < 0) : smN f (x + (d + 1)) < smN f x := by
  have a := smN_dn (f := f) (x + 1) d (fun j h1 h2 => e j (by omega) (by omega))
  have b : smN f (x + 1) = smN f x + f x := rfl
  rw [show x + (d + 1) = x + 1 + d by omega]
  omega
theorem least_ex {G : Nat → Int} {P : Nat → Prop} : ∀ n, (∃ a, a < n ∧ P a) → ∃ a, a < n ∧ P a ∧ ∀ b, b < n → P b → G a ≤ G b
  | 0, ⟨a, h, _⟩ => by omega
  | n + 1, ⟨a, h, p⟩ => by
    by_cases q : ∃ a, a < n ∧ P a
    · obtain ⟨m, m1, m2, m3⟩ := least_ex (G := G) (P := P) n q
      by_cases r : P n ∧ G n < G m
      · refine ⟨n, by omega, r.1, fun b hb pb => ?_⟩
        by_cases e : b = n
        · rw [e]; exact Int.le_refl _
        · have := m3 b (by omega) pb; omega
      · refine ⟨m, by omega, m2, fun b hb pb => ?_⟩
        by_cases e : b = n
        · subst e
          by_cases z : G b < G m
          · exact absurd ⟨pb, z⟩ r
          · omega
        · exact m3 b (by omega) pb
    · have : a = n := by
        by_cases e : a = n
        · exact e
        · exact absurd ⟨a, by omega, p⟩ q
      subst this
      refine ⟨a, by omega, p, fun b hb pb => ?_⟩
      by_cases e : b = a
      · rw [e]; exact Int.le_refl _
      · exact absurd ⟨b, by omega, pb⟩ q
def vlG (g : Nat → Nat → Int) (k : Nat → Nat) (n : Nat) : Int := smN (fun c => smN (fun j => g c j) (k c)) n
def grI (g : Nat → Nat → Int) (k : Nat → Nat) (n : Nat) : Prop := ∀ a b, a < n → b < n → 0 < k a → g b (k b) ≤ g a (k a - 1) ∧ (b < a → g b (k b) < g a (k a - 1))
theorem anti_le {g : Nat → Nat → Int} (anti : ∀ c j, g c (j + 1) ≤ g c j) (c x : Nat) : ∀ d, g c (x + d) ≤ g c x
  | 0 => Int.le_refl _
  | d + 1 => by have := anti_le anti c x d; have := anti c (x + d); rw [show x + (d + 1) = x + d + 1 by omega]; omega
theorem greedy_opt {g : Nat → Nat → Int} {n : Nat} {k k' : Nat → Nat} (anti : ∀ c j, g c (j + 1) ≤ g c j) (inv : grI g k n) (hs : smN (fun c => (k c : Int)) n = smN (fun c => (k' c : Int)) n) :
    vlG g k' n ≤ vlG g k n ∧ ∀ b, b < n → k b < k' b → (∀ c, c < b → k' c = k c) → vlG g k' n < vlG g k n := by
  by_cases q : ∃ a, a < n ∧ k' a < k a
  · obtain ⟨a0, a1, a2, a3⟩ := least_ex (G := fun a => g a (k a - 1)) (P := fun a => k' a < k a) n q
    have key : ∀ (x : Nat → Nat), vlG g x n - g a0 (k a0 - 1) * smN (fun c => (x c : Int)) n = smN (fun c => smN (fun j => g c j - g a0 (k a0 - 1)) (x c)) n := by
      intro x
      have e : ∀ c, smN (fun j => g c j - g a0 (k a0 - 1)) (x c) = smN (fun j => g c j) (x c) - g a0 (k a0 - 1) * (x c : Int) := fun c => by
        rw [smN_sub (fun j => g c j) (fun _ => g a0 (k a0 - 1)), smN_const]
      rw [smN_cong n (fun c _ => e c), smN_sub (fun c => smN (fun j => g c j) (x c)) (fun c => g a0 (k a0 - 1) * (x c : Int)), smN_mul]
      rfl
    generalize ht : g a0 (k a0 - 1) = t at *
    have term : ∀ c, c < n → smN (fun j => g c j - t) (k' c) ≤ smN (fun j => g c j - t) (k c) := by
      intro c hc
      rcases (by omega : k' c < k c ∨ k' c = k c ∨ k c < k' c) with z | z | z
      · have := smN_up (f := fun j => g c j - t) (k' c) (k c - k' c) (fun j h1 h2 => by
          have b1 : t ≤ g c (k c - 1) := by first | exact a3 c hc z | (rw [← ht]; exact a3 c hc z)
          have b2 := anti_le anti c j (k c - 1 - j)
          rw [show j + (k c - 1 - j) = k c - 1 by omega] at b2
          omega)
        rw [show k' c + (k c - k' c) = k c by omega] at this
        exact this
      · rw [z]; exact Int.le_refl _
      · have := smN_dn (f := fun j => g c j - t) (k c) (k' c - k c) (fun j h1 h2 => by
          have b1 := (inv a0 c a1 hc (by omega)).1
          rw [ht] at b1
          have b2 := anti_le anti c (k c) (j - k c)
          rw [show k c + (j - k c) = j by omega] at b2
          omega)
        rw [show k c + (k' c - k c) = k' c by omega] at this
        exact this
    have k1 := key k
    have k2 := key k'
    rw [hs] at k1
    refine ⟨?_, fun b hb hlt hpre => ?_⟩
    · have := smN_le n term
      omega
    · have hba : b < a0 := by
        rcases (by omega : b < a0 ∨ b = a0 ∨ a0 < b) with z | z | z
        · exact z
        · subst z; omega
        · have := hpre a0 z; omega
      have st : smN (fun j => g b j - t) (k' b) < smN (fun j => g b j - t) (k b) := by
        have := smN_dns (f := fun j => g b j - t) (k b) (k' b - k b - 1) (fun j h1 h2 => by
          have b1 := (inv a0 b a1 hb (by omega)).1
          rw [ht] at b1
          have b2 := anti_le anti b (k b) (j - k b)
          rw [show k b + (j - k b) = j by omega] at b2
          omega) (by
          have b1 := (inv a0 b a1 hb (by omega)).2 hba
          rw [ht] at b1
          show g b (k b) - t < 0
          omega)
        rw [show k b + (k' b - k b - 1 + 1) = k' b by omega] at this
        exact this
      have := smN_lt (b := b) n hb term st
      omega
  · have ge : ∀ c, c < n → k c ≤ k' c := fun c hc => by
      by_cases z : k' c < k c
      · exact absurd ⟨c, hc, z⟩ q
      · omega
    have eq : ∀ c, c < n → k' c = k c := fun c hc => by
      by_cases z : k' c = k c
      · exact z
      · exfalso
        have := smN_lt (f := fun c => (k c : Int)) (h := fun c => (k' c : Int)) (b := c) n hc (fun c hc => by have := ge c hc; omega) (by have := ge c hc; omega)
        omega
    refine ⟨Int.le_of_eq ?_, fun b hb hlt _ => by have := eq b hb; omega⟩
    unfold vlG
    exact smN_cong n (fun c hc => by rw [eq c hc])
/-- one look more -/
theorem gr_step {g : Nat → Nat → Int} {n b : Nat} {k : Nat → Nat} (anti : ∀ c j, g c (j + 1) ≤ g c j) (inv : grI g k n) (hb : b < n) (mx : ∀ c, c < n → g c (k c) ≤ g b (k b)) (mx2 : ∀ c, c < b → g c (k c) < g b (k b)) : grI g (fun c => if c = b then k c + 1 else k c) n := by
  intro x y hx hy hk
  simp only at hk ⊢
  by_cases e : x = b
  · subst e
    rw [if_pos rfl, Nat.add_sub_cancel]
    by_cases e2 : y = x
    · subst e2
      rw [if_pos rfl]
      exact ⟨anti y (k y), fun z => by omega⟩
    · rw [if_neg e2]
      exact ⟨mx y hy, fun z => mx2 y z⟩
  · rw [if_neg e] at hk ⊢
    by_cases e2 : y = b
    · subst e2
      rw [if_pos rfl]
      have a := inv x y hx hy hk
      have d := anti y (k y)
      exact ⟨by omega, fun z => by have := a.2 z; omega⟩
    · rw [if_neg e2]
      exact inv x y hx hy hk
theorem vl_step {g : Nat → Nat → Int} {b : Nat} {k : Nat → Nat} : ∀ n, b < n → vlG g (fun c => if c = b then k c + 1 else k c) n = vlG g k n + g b (k b)
  | 0, h => by omega
  | n + 1, h => by
    show vlG g (fun c => if c = b then k c + 1 else k c) n + smN (fun j => g n j) (if n = b then k n + 1 else k n) = vlG g k n + smN (fun j => g n j) (k n) + g b (k b)
    by_cases e : n = b
    · subst e
      rw [if_pos rfl]
      have : vlG g (fun c => if c = n then k c + 1 else k c) n = vlG g k n := smN_cong n (fun c hc => by
        show smN (fun j => g c j) (if c = n then k c + 1 else k c) = _
        rw [if_neg (by omega)])
      rw [this]
      show vlG g k n + (smN (fun j => g n j) (k n) + g n (k n)) = _
      omega
    · rw [if_neg e, vl_step n (by omega)]
      omega
theorem cn_step {b : Nat} {k : Nat → Nat} : ∀ n, b < n → smN (fun c => ((if c = b then k c + 1 else k c : Nat) : Int)) n = smN (fun c => (k c : Int)) n + 1
  | 0, h => by omega
  | n + 1, h => by
    show smN (fun c => ((if c = b then k c + 1 else k c : Nat) : Int)) n + ((if n = b then k n + 1 else k n : Nat) : Int) = smN (fun c => (k c : Int)) n + (k n : Int) + 1
    by_cases e : n = b
    · subst e
      rw [if_pos rfl]
      have : smN (fun c => ((if c = n then k c + 1 else k c : Nat) : Int)) n = smN (fun c => (k c : Int)) n := smN_cong n (fun c hc => by rw [if_neg (by omega)])
      rw [this]
      omega
    · rw [if_neg e, cn_step n (by omega)]
      omega
