/-! a law's text: its words and signs -/
def isLo (x : Int) : Bool := decide (97 ≤ x ∧ x ≤ 122)
def isDg (x : Int) : Bool := decide (48 ≤ x ∧ x ≤ 57)
section TK
variable (T : Nat → Int) (L : Nat)
def kd (p : Nat) : Nat := if p < L then (if isLo (T p) then 0 else if isDg (T p) then 1 else 2) else 3
def skN : Nat → Nat → Nat
  | 0, p => p
  | f + 1, p => if p < L ∧ T p = 32 then skN f (p + 1) else p
def rnN (k : Nat) : Nat → Nat → Nat
  | 0, p => p
  | f + 1, p => if kd T L p = k then rnN k f (p + 1) else p
def sk (p : Nat) : Nat := skN T L (L + 1) p
def te (p : Nat) : Nat := if kd T L p = 3 then p else if kd T L p < 2 then rnN T L (kd T L p) (L + 1) (p + 1) else p + 1
def tkF : Nat → Nat
  | 0 => sk T L 0
  | i + 1 => sk T L (te T L (tkF i))
def tkT (i : Nat) : Nat := te T L (tkF T L i)
def slc (p n : Nat) : List Int := (List.range n).map (fun i => T (p + i))
def wl : List (List Int) := [[110, 111, 105, 115, 101], [108, 111, 115, 115], [101, 97, 114], [105, 102], [111, 114], [97, 110, 100], [110, 111, 116], [115, 112, 101, 101, 100], [100, 101, 112, 116, 104], [114, 97, 110, 103, 101], [98, 101, 108, 108], [98, 111, 97, 116]]
def wcode (s : List Int) : Int := if wl.idxOf s < 12 then (wl.idxOf s : Int) + 1 else 0
def hvN (p : Nat) : Nat → Int
  | 0 => 0
  | n + 1 => if 1000 < hvN p n then hvN p n else 10 * hvN p n + T (p + n) - 48
def vN (p : Nat) : Nat → Int
  | 0 => 0
  | n + 1 => if 1000000 < vN p n then vN p n else 10 * vN p n + T (p + n) - 48
def cdP (p : Nat) : Int := if kd T L p = 0 then wcode (slc T p (te T L p - p)) else if kd T L p = 1 then 50 else if kd T L p = 2 then 100 + T p else 0
def vlP (p : Nat) : Int := if kd T L p = 1 then vN T p (te T L p - p) else 0
def tcS (i : Nat) : Int := cdP T L (tkF T L i)
def tvS (i : Nat) : Int := vlP T L (tkF T L i)
end TK
theorem skN_ok (T : Nat → Int) (L : Nat) : ∀ (f p : Nat), L < f + p → p ≤ skN T L f p ∧ (∀ r, p ≤ r → r < skN T L f p → r < L ∧ T r = 32) ∧ ¬ (skN T L f p < L ∧ T (skN T L f p) = 32) := by
  intro f
  induction f with
  | zero =>
    intro p h
    exact ⟨Nat.le_refl _, fun r h1 h2 => by unfold skN at h2; omega, fun z => by unfold skN at z; omega⟩
  | succ f ih =>
    intro p h
    unfold skN
    by_cases c : p < L ∧ T p = 32
    · rw [if_pos c]
      obtain ⟨a, b, d⟩ := ih (p + 1) (by omega)
      refine ⟨by omega, fun r h1 h2 => ?_, d⟩
      by_cases e : r = p
      · rw [e]; exact c
      · exact b r (by omega) h2
    · rw [if_neg c]
      exact ⟨Nat.le_refl _, fun r h1 h2 => by omega, c⟩
theorem sk_ok (T : Nat → Int) (L p : Nat) : p ≤ sk T L p ∧ (∀ r, p ≤ r → r < sk T L p → r < L ∧ T r = 32) ∧ ¬ (sk T L p < L ∧ T (sk T L p) = 32) := skN_ok T L (L + 1) p (by omega)
theorem sk_le {T : Nat → Int} {L p : Nat} (h : p ≤ L) : sk T L p ≤ L := by
  obtain ⟨a, b, c⟩ := sk_ok T L p
  by_cases q : sk T L p ≤ L
  · exact q
  · have := b L h (by omega)
    omega
theorem sk_uniq {T : Nat → Int} {L p q : Nat} (h1 : p ≤ q) (h2 : ∀ r, p ≤ r → r < q → r < L ∧ T r = 32) (h3 : ¬ (q < L ∧ T q = 32)) : sk T L p = q := by
  obtain ⟨a, b, c⟩ := sk_ok T L p
  rcases (by omega : sk T L p < q ∨ sk T L p = q ∨ q < sk T L p) with g | g | g
  · exact absurd (h2 _ a g) c
  · exact g
  · exact absurd (b _ h1 g) h3
theorem kd_lt {T : Nat → Int} {L p : Nat} : kd T L p < 3 ↔ p < L := by
  unfold kd
  by_cases c : p < L
  · rw [if_pos c]
    refine ⟨fun _ => c, fun _ => ?_⟩
    split
    · omega
    · split <;> omega
  · rw [if_neg c]; omega
theorem kd_le (T : Nat → Int) (L p : Nat) : kd T L p ≤ 3 := by
  unfold kd
  split
  · split
    · omega
    · split <;> omega
  · omega
theorem rnN_ok (T : Nat → Int) (L k : Nat) (hk : k < 3) : ∀ (f p : Nat), L < f + p → p ≤ rnN T L k f p ∧ (∀ r, p ≤ r → r < rnN T L k f p → kd T L r = k) ∧ kd T L (rnN T L k f p) ≠ k := by
  intro f
  induction f with
  | zero =>
    intro p h
    exact ⟨Nat.le_refl _, fun r h1 h2 => by unfold rnN at h2; omega, fun z => by unfold rnN at z; have := (kd_lt (T := T) (L := L) (p := p)).mp (by omega); omega⟩
  | succ f ih =>
    intro p h
    unfold rnN
    by_cases c : kd T L p = k
    · rw [if_pos c]
      obtain ⟨a, b, d⟩ := ih (p + 1) (by omega)
      refine ⟨by omega, fun r h1 h2 => ?_, d⟩
      by_cases e : r = p
      · rw [e]; exact c
      · exact b r (by omega) h2
    · rw [if_neg c]
      exact ⟨Nat.le_refl _, fun r h1 h2 => by omega, c⟩
theorem te_run {T : Nat → Int} {L p : Nat} (h : kd T L p < 2) : p + 1 ≤ te T L p ∧ te T L p ≤ L ∧ (∀ r, p ≤ r → r < te T L p → kd T L r = kd T L p) ∧ kd T L (te T L p) ≠ kd T L p := by
  have e : te T L p = rnN T L (kd T L p) (L + 1) (p + 1) := by unfold te; rw [if_neg (by omega), if_pos h]
  obtain ⟨a, b, c⟩ := rnN_ok T L (kd T L p) (by omega) (L + 1) (p + 1) (by omega)
  rw [← e] at a b c
  have hb : ∀ r, p ≤ r → r < te T L p → kd T L r = kd T L p := fun r h1 h2 => by
    by_cases q : r = p
    · rw [q]
    · exact b r (by omega) h2
  refine ⟨a, ?_, hb, c⟩
  have := (kd_lt (T := T) (L := L)).mp (show kd T L (te T L p - 1) < 3 by rw [hb _ (by omega) (by omega)]; omega)
  omega
theorem te_uniq {T : Nat → Int} {L p q : Nat} (h : kd T L p < 2) (h1 : p + 1 ≤ q) (h2 : ∀ r, p + 1 ≤ r → r < q → kd T L r = kd T L p) (h3 : kd T L q ≠ kd T L p) : te T L p = q := by
  obtain ⟨a, b, c, d⟩ := te_run h
  rcases (by omega : te T L p < q ∨ te T L p = q ∨ q < te T L p) with g | g | g
  · exact absurd (h2 _ a g) d
  · exact g
  · exact absurd (c _ (by omega) g) h3
theorem te_2 {T : Nat → Int} {L p : Nat} (h : kd T L p = 2) : te T L p = p + 1 := by unfold te; rw [if_neg (by omega), if_neg (by omega)]
theorem te_3 {T : Nat → Int} {L p : Nat} (h : kd T L p = 3) : te T L p = p := by unfold te; rw [if_pos h]
theorem te_rng {T : Nat → Int} {L p : Nat} (h : p ≤ L) : p ≤ te T L p ∧ te T L p ≤ L ∧ (p < L → p < te T L p) := by
  rcases (by have := kd_le T L p; omega : kd T L p < 2 ∨ kd T L p = 2 ∨ kd T L p = 3) with g | g | g
  · obtain ⟨a, b, _, _⟩ := te_run g; omega
  · rw [te_2 g]
    have := (kd_lt (T := T) (L := L) (p := p)).mp (by omega)
    omega
  · rw [te_3 g]
    have : ¬ p < L := fun z => by have := (kd_lt (T := T) (L := L) (p := p)).mpr z; omega
    omega
theorem tkF_le (T : Nat → Int) (L i : Nat) : tkF T L i ≤ L := by
  induction i with
  | zero => exact sk_le (by omega)
  | succ i ih => exact sk_le (te_rng ih).2.1
theorem tkF_step {T : Nat → Int} {L i : Nat} : tkF T L i ≤ tkT T L i ∧ tkT T L i ≤ tkF T L (i + 1) ∧ (tkF T L i < L → tkF T L i < tkT T L i) := by
  have := te_rng (T := T) (tkF_le T L i)
  have := (sk_ok T L (te T L (tkF T L i))).1
  unfold tkT
  show _ ∧ te T L (tkF T L i) ≤ sk T L (te T L (tkF T L i)) ∧ _
  omega
theorem tkF_ge {T : Nat → Int} {L i : Nat} : i ≤ tkF T L i ∨ tkF T L i = L := by
  induction i with
  | zero => left; omega
  | succ i ih =>
    have := tkF_step (T := T) (L := L) (i := i)
    have := tkF_le T L i
    have := tkF_le T L (i + 1)
    omega
theorem tkF_mono {T : Nat → Int} {L i j : Nat} (h : i ≤ j) : tkF T L i ≤ tkF T L j := by
  induction j with
  | zero => rw [show i = 0 by omega]; omega
  | succ j ih =>
    by_cases q : i = j + 1
    · rw [q]; omega
    · have := ih (by omega)
      have := tkF_step (T := T) (L := L) (i := j)
      omega
theorem tkF_end {T : Nat → Int} {L : Nat} : tkF T L L = L := by
  have := tkF_ge (T := T) (L := L) (i := L)
  have := tkF_le T L L
  omega
/-- how many -/
def tkN (T : Nat → Int) (L : Nat) : Nat → Nat
  | 0 => 0
  | i + 1 => if tkF T L (tkN T L i) < L then tkN T L i + 1 else tkN T L i
def tkM (T : Nat → Int) (L : Nat) : Nat := tkN T L L
theorem tkN_le (T : Nat → Int) (L i : Nat) : tkN T L i ≤ i := by
  induction i with
  | zero => exact Nat.le_refl _
  | succ i ih => unfold tkN; split <;> omega
theorem tkN_lt {T : Nat → Int} {L i j : Nat} (h : j < tkN T L i) : tkF T L j < L := by
  induction i with
  | zero => exact absurd h (by unfold tkN; omega)
  | succ i ih =>
    unfold tkN at h
    by_cases c : tkF T L (tkN T L i) < L
    · rw [if_pos c] at h
      by_cases q : j = tkN T L i
      · rw [q]; exact c
      · exact ih (by omega)
    · rw [if_neg c] at h
      exact ih h
theorem tkN_ge {T : Nat → Int} {L i : Nat} : tkN T L i = i ∨ tkF T L (tkN T L i) = L := by
  induction i with
  | zero => left; rfl
  | succ i ih =>
    unfold tkN
    by_cases c : tkF T L (tkN T L i) < L
    · rw [if_pos c]
      rcases ih with g | g
      · left; omega
      · omega
    · rw [if_neg c]
      right
      have := tkF_le T L (tkN T L i)
      omega
theorem tkM_le (T : Nat → Int) (L : Nat) : tkM T L ≤ L := tkN_le T L L
theorem tk_lt {T : Nat → Int} {L i : Nat} : i < tkM T L ↔ tkF T L i < L := by
  constructor
  · exact tkN_lt
  · intro h
    by_cases q : i < tkM T L
    · exact q
    · exfalso
      have e : tkF T L (tkM T L) = L := by
        rcases (tkN_ge (T := T) (L := L) (i := L)) with g | g
        · unfold tkM; rw [g]; exact tkF_end
        · exact g
      have := tkF_mono (T := T) (L := L) (show tkM T L ≤ i by omega)
      omega
theorem tc_0 {T : Nat → Int} {L i : Nat} (h : tcS T L i ≠ 0) : i < tkM T L := by
  rw [tk_lt]
  by_cases q : tkF T L i < L
  · exact q
  · exfalso
    apply h
    have k3 : kd T L (tkF T L i) = 3 := by unfold kd; rw [if_neg q]
    unfold tcS cdP
    rw [if_neg (by omega), if_neg (by omega), if_neg (by omega)]
theorem wc_iff {s : List Int} {w : Nat} (hw : w < 12) : wcode s = (w : Int) + 1 ↔ s = wl.getD w [] := by
  unfold wcode
  constructor
  · intro h
    by_cases q : wl.idxOf s < 12
    · rw [if_pos q] at h
      have e : wl.idxOf s = w := by omega
      have g := List.getElem_idxOf (xs := wl) (x := s) (show wl.idxOf s < wl.length from q)
      rw [List.getD_eq_getElem?_getD, ← e, List.getElem?_eq_getElem (show wl.idxOf s < wl.length from q), g]
      rfl
    · rw [if_neg q] at h; omega
  · intro h
    have : ∀ v : Fin 12, wl.idxOf (wl.getD v.val []) = v.val := by decide
    rw [h, this ⟨w, hw⟩, if_pos hw]
theorem wc_rng (s : List Int) : 0 ≤ wcode s ∧ wcode s ≤ 12 := by
  unfold wcode
  split <;> omega
theorem hv {T : Nat → Int} {p : Nat} : ∀ n : Nat, (∀ i, i < n → 48 ≤ T (p + i) ∧ T (p + i) ≤ 57) → (0 ≤ hvN T p n ∧ hvN T p n ≤ 10009 ∧ 0 ≤ vN T p n ∧ vN T p n ≤ 10000009) ∧ (hvN T p n ≤ 1000 → vN T p n = hvN T p n) ∧ (1000 < hvN T p n → 1000 < vN T p n)
  | 0, _ => by unfold hvN vN; omega
  | n + 1, h => by
    obtain ⟨⟨a, b, c, d⟩, e, f⟩ := hv n (fun i hi => h i (by omega))
    have g := h n (by omega)
    unfold hvN vN
    by_cases q : 1000 < hvN T p n
    · rw [if_pos q]
      by_cases q2 : 1000000 < vN T p n
      · rw [if_pos q2]; omega
      · rw [if_neg q2]; have := f q; omega
    · rw [if_neg q]
      have := e (by omega)
      rw [if_neg (by omega)]
      omega
