/-! what the document says, in numbers, of the reference's row 'kept' -/
def kI (f : Nat → Int32) (j : Int) : Int := (f j.toNat).toInt
theorem kI_z (σ : qMem) (c : Nat) (j : Int) : gi σ c j.toNat = zI (kI (σ.1 c) j) := (zI_of _).symm
theorem kI_lo (f : Nat → Int32) (j : Int) : -2147483648 ≤ kI f j := zI_lo _
theorem kI_hi (f : Nat → Int32) (j : Int) : kI f j < 2147483648 := zI_hi _
theorem kI_upd {f : Nat → Int32} {i j v : Int} (hi : 0 ≤ i) (hj : 0 ≤ j) (h1 : -2147483648 ≤ v) (h2 : v < 2147483648) : kI (upd f j.toNat (zI v)) i = if i = j then v else kI f i := by
  unfold kI upd
  by_cases h : i = j
  · subst h; simp only [if_true]; exact zI_toInt h1 h2
  · rw [if_neg h, if_neg (by omega)]
def legN (κ : Nat → Int32) (b : Int) : Int := kI κ (22 * b + 3)
def legB (κ : Nat → Int32) (b l : Int) : Int := kI κ (22 * b + 4 + 3 * l)
def legV (κ : Nat → Int32) (b l w : Int) : Int := kI κ (22 * b + 5 + 3 * l + w)
def velR (κ : Nat → Int32) (b w bell : Int) : Nat → Int
  | 0 => 0
  | l + 1 => if legB κ b l ≤ bell then legV κ b l w else velR κ b w bell l
def velS (κ : Nat → Int32) (b w bell : Int) : Int := velR κ b w bell (legN κ b).toNat
def posN (κ : Nat → Int32) (b w : Int) : Nat → Int
  | 0 => kI κ (22 * b + w)
  | n + 1 => posN κ b w n + velS κ b w n
def pos (κ : Nat → Int32) (b bell w : Int) : Int := posN κ b w bell.toNat
def spd (κ : Nat → Int32) (b bell : Int) : Int := max (szS (velS κ b 0 bell)) (szS (velS κ b 1 bell))
def depS (κ : Nat → Int32) (b : Int) : Int := kI κ (22 * b + 2)
/-! sound -/
def slowS (κ : Nat → Int32) (d : Int) : Int := kI κ (50 + 10 * kI κ 310 + d)
def bendS (κ : Nat → Int32) (d : Int) : Int := if slowS κ (max (d - 1) 0) < slowS κ (min (d + 1) 9) then 1 else if slowS κ (min (d + 1) 9) < slowS κ (max (d - 1) 0) then -1 else 0
def rayT (p : Int × Int) (b : Int) : Int × Int :=
  if p.1 + max (-2) (min 2 (p.2 + b)) < 0 then (-(p.1 + max (-2) (min 2 (p.2 + b))), -max (-2) (min 2 (p.2 + b)))
  else if 9 < p.1 + max (-2) (min 2 (p.2 + b)) then (18 - (p.1 + max (-2) (min 2 (p.2 + b))), -max (-2) (min 2 (p.2 + b)))
  else (p.1 + max (-2) (min 2 (p.2 + b)), max (-2) (min 2 (p.2 + b)))
def rayS (κ : Nat → Int32) (d s : Int) : Nat → Int × Int
  | 0 => (d, s)
  | n + 1 => rayT (rayS κ d s n) (bendS κ (rayS κ d s n).1)
def nearB (a b : Int) : Bool := decide (a - 1 ≤ b ∧ b ≤ a + 1)
def reachB (κ : Nat → Int32) (d t r : Int) : Bool := nearB (rayS κ d (-2) r.toNat).1 t || nearB (rayS κ d (-1) r.toNat).1 t || nearB (rayS κ d 0 r.toNat).1 t || nearB (rayS κ d 1 r.toNat).1 t || nearB (rayS κ d 2 r.toNat).1 t
theorem rayT_rng {p : Int × Int} {b : Int} (h1 : 0 ≤ p.1 ∧ p.1 ≤ 9) : (0 ≤ (rayT p b).1 ∧ (rayT p b).1 ≤ 9) ∧ (-2 ≤ (rayT p b).2 ∧ (rayT p b).2 ≤ 2) := by
  unfold rayT
  split
  · simp only; omega
  · split
    · simp only; omega
    · simp only; omega
theorem rayS_rng {κ : Nat → Int32} {d s : Int} (h1 : 0 ≤ d ∧ d ≤ 9) (h2 : -2 ≤ s ∧ s ≤ 2) (n : Nat) : (0 ≤ (rayS κ d s n).1 ∧ (rayS κ d s n).1 ≤ 9) ∧ (-2 ≤ (rayS κ d s n).2 ∧ (rayS κ d s n).2 ≤ 2) := by
  induction n with
  | zero => exact ⟨h1, h2⟩
  | succ n ih => exact rayT_rng ih.1
theorem bendS_rng (κ : Nat → Int32) (d : Int) : -1 ≤ bendS κ d ∧ bendS κ d ≤ 1 := by
  unfold bendS
  split
  · omega
  · split <;> omega
/-! what is heard, what is new -/
def itF (κ : Nat → Int32) (it : Bool × Nat) (f : Int) : Int := kI κ ((if it.1 then 152 else 80) + 3 * (it.2 : Int) + f)
def wayB (κ : Nat → Int32) (it : Bool × Nat) (x y : Int) : Bool := if it.1 then farB (itF κ it 2) (kI κ 45) x y else towB (itF κ it 2) (kI κ 44) x y
def explB (κ : Nat → Int32) (it : Bool × Nat) (x y : Int) : Bool := wayB κ it (x - pos κ (itF κ it 0) (itF κ it 1) 0) (y - pos κ (itF κ it 0) (itF κ it 1) 1)
def knownP (κ : Nat → Int32) (it : Bool × Nat) : Prop :=
  (∃ w : Int, 0 ≤ w ∧ w < kI κ 302 ∧ explB κ it (kI κ (188 + 2 * w)) (kI κ (188 + 2 * w + 1)) = true) ∨
  (∃ s : Int, 0 ≤ s ∧ s < kI κ 308 ∧ (kI κ (238 + 5 * s + 3) ≤ itF κ it 1 ∧ itF κ it 1 ≤ kI κ (238 + 5 * s + 4)) ∧
    ∃ x y : Int, kI κ (238 + 5 * s) - kI κ (238 + 5 * s + 2) ≤ x ∧ x ≤ kI κ (238 + 5 * s) + kI κ (238 + 5 * s + 2) ∧ kI κ (238 + 5 * s + 1) - kI κ (238 + 5 * s + 2) ≤ y ∧ y ≤ kI κ (238 + 5 * s + 1) + kI κ (238 + 5 * s + 2) ∧ explB κ it x y = true)
noncomputable def dcB (P : Prop) : Bool := @decide P (Classical.propDecidable P)
theorem dcB_t {P : Prop} (h : P) : dcB P = true := @decide_eq_true P (Classical.propDecidable P) h
theorem dcB_f {P : Prop} (h : ¬ P) : dcB P = false := @decide_eq_false P (Classical.propDecidable P) h
theorem dcB_iff {P : Prop} : dcB P = true ↔ P := ⟨fun h => @of_decide_eq_true P (Classical.propDecidable P) h, dcB_t⟩
theorem dcB_nf {P : Prop} : dcB P = false ↔ ¬ P := ⟨fun h => @of_decide_eq_false P (Classical.propDecidable P) h, dcB_f⟩
noncomputable def knownB (κ : Nat → Int32) (it : Bool × Nat) : Bool := dcB (knownP κ it)
noncomputable def newsK (κ : Nat → Int32) (e : Bool) (n : Nat) : List (Bool × Nat) := ((List.range n).filter (fun k => !knownB κ (e, k))).map (fun k => (e, k))
noncomputable def newsL (κ : Nat → Int32) : List (Bool × Nat) := newsK κ false (kI κ 300).toNat ++ newsK κ true (kI κ 301).toNat
def fitB (κ : Nat → Int32) (it : Bool × Nat) (bell x y : Int) : Bool :=
  wayB κ it (x - pos κ (itF κ it 0) bell 0) (y - pos κ (itF κ it 0) bell 1) && reachB κ (kI κ 47) (depS κ (itF κ it 0)) (mxS (x - pos κ (itF κ it 0) bell 0) (y - pos κ (itF κ it 0) bell 1))
def okB (κ : Nat → Int32) (it : Bool × Nat) (shift x y u v : Int) : Bool :=
  decide (0 ≤ itF κ it 1 + shift ∧ itF κ it 1 + shift ≤ 23) && fitB κ it (itF κ it 1 + shift) (x + u * (itF κ it 1 + shift)) (y + v * (itF κ it 1 + shift))
noncomputable def missOf (κ : Nat → Int32) (b shift x y u v : Int) : Nat := (newsL κ).countP (fun it => decide (itF κ it 0 = b) && !okB κ it shift x y u v)
def mnS (f : Nat → Nat) : Nat → Nat
  | 0 => 100
  | n + 1 => min (mnS f n) (f n)
noncomputable def missBest (κ : Nat → Int32) (x y u v : Int) : Nat := missOf κ 0 0 x y u v + mnS (fun i => missOf κ 1 ((i : Int) - kI κ 46) x y u v) (2 * kI κ 46 + 1).toNat
noncomputable def runB (κ : Nat → Int32) (x y u v : Int) : Bool := dcB (missOf κ 0 0 x y u v = 0 ∧ ∃ s : Int, -kI κ 46 ≤ s ∧ s ≤ kI κ 46 ∧ missOf κ 1 s x y u v = 0)
noncomputable def fitR (κ : Nat → Int32) (r : Nat) : Bool := runB κ ((r / 1568 : Nat) : Int) ((r / 49 % 32 : Nat) : Int) (((r / 7 % 7 : Nat) : Int) - 3) (((r % 7 : Nat) : Int) - 3)
noncomputable def missR (κ : Nat → Int32) (r : Nat) : Nat := missBest κ ((r / 1568 : Nat) : Int) ((r / 49 % 32 : Nat) : Int) (((r / 7 % 7 : Nat) : Int) - 3) (((r % 7 : Nat) : Int) - 3)
/-! what numbers can be -/
def KB (κ : Nat → Int32) : Prop := ∀ b : Int, 0 ≤ b → b ≤ 1 → (0 ≤ kI κ (22 * b) ∧ kI κ (22 * b) ≤ 31) ∧ (0 ≤ kI κ (22 * b + 1) ∧ kI κ (22 * b + 1) ≤ 31) ∧ (0 ≤ depS κ b ∧ depS κ b ≤ 9) ∧ (0 ≤ legN κ b ∧ legN κ b ≤ 6) ∧
  (∀ l : Int, 0 ≤ l → l < legN κ b → (0 ≤ legB κ b l ∧ legB κ b l ≤ 23) ∧ (-3 ≤ legV κ b l 0 ∧ legV κ b l 0 ≤ 3) ∧ (-3 ≤ legV κ b l 1 ∧ legV κ b l 1 ≤ 3)) ∧
  (∀ l : Int, 0 ≤ l → l + 1 < legN κ b → legB κ b l < legB κ b (l + 1))
def KT (κ : Nat → Int32) : Prop := (0 ≤ kI κ 44 ∧ kI κ 44 ≤ 20) ∧ (0 ≤ kI κ 45 ∧ kI κ 45 ≤ 9) ∧ (0 ≤ kI κ 46 ∧ kI κ 46 ≤ 3) ∧ (0 ≤ kI κ 47 ∧ kI κ 47 ≤ 9) ∧ (1 ≤ kI κ 48 ∧ kI κ 48 ≤ 23) ∧ (0 ≤ kI κ 49 ∧ kI κ 49 ≤ 40) ∧ (0 ≤ kI κ 310 ∧ kI κ 310 ≤ 2)
def KH (κ : Nat → Int32) : Prop := (0 ≤ kI κ 300 ∧ kI κ 300 ≤ 24) ∧ ∀ h : Int, 0 ≤ h → h < kI κ 300 → (0 ≤ kI κ (80 + 3 * h) ∧ kI κ (80 + 3 * h) ≤ 1) ∧ (0 ≤ kI κ (80 + 3 * h + 1) ∧ kI κ (80 + 3 * h + 1) ≤ 23) ∧ (0 ≤ kI κ (80 + 3 * h + 2) ∧ kI κ (80 + 3 * h + 2) ≤ 79)
def KE (κ : Nat → Int32) : Prop := (0 ≤ kI κ 301 ∧ kI κ 301 ≤ 12) ∧ ∀ h : Int, 0 ≤ h → h < kI κ 301 → (0 ≤ kI κ (152 + 3 * h) ∧ kI κ (152 + 3 * h) ≤ 1) ∧ (0 ≤ kI κ (152 + 3 * h + 1) ∧ kI κ (152 + 3 * h + 1) ≤ 23) ∧ (0 ≤ kI κ (152 + 3 * h + 2) ∧ kI κ (152 + 3 * h + 2) ≤ 99)
def KR (κ : Nat → Int32) : Prop := (0 ≤ kI κ 302 ∧ kI κ 302 ≤ 8) ∧ ∀ w : Int, 0 ≤ w → w < kI κ 302 → (0 ≤ kI κ (188 + 2 * w) ∧ kI κ (188 + 2 * w) ≤ 31) ∧ (0 ≤ kI κ (188 + 2 * w + 1) ∧ kI κ (188 + 2 * w + 1) ≤ 31)
def KS (κ : Nat → Int32) : Prop := (0 ≤ kI κ 308 ∧ kI κ 308 ≤ 6) ∧ ∀ s : Int, 0 ≤ s → s < kI κ 308 → (0 ≤ kI κ (238 + 5 * s) ∧ kI κ (238 + 5 * s) ≤ 31) ∧ (0 ≤ kI κ (238 + 5 * s + 1) ∧ kI κ (238 + 5 * s + 1) ≤ 31) ∧ (0 ≤ kI κ (238 + 5 * s + 2) ∧ kI κ (238 + 5 * s + 2) ≤ 9) ∧ (0 ≤ kI κ (238 + 5 * s + 3) ∧ kI κ (238 + 5 * s + 3) ≤ 23) ∧ (0 ≤ kI κ (238 + 5 * s + 4) ∧ kI κ (238 + 5 * s + 4) ≤ 23)
def KG (κ : Nat → Int32) : Prop := (0 ≤ kI κ 309 ∧ kI κ 309 ≤ 8) ∧ ∀ g : Int, 0 ≤ g → g < kI κ 309 → (0 ≤ kI κ (268 + 4 * g) ∧ kI κ (268 + 4 * g) ≤ 31) ∧ (0 ≤ kI κ (268 + 4 * g + 1) ∧ kI κ (268 + 4 * g + 1) ≤ 31) ∧ (-3 ≤ kI κ (268 + 4 * g + 2) ∧ kI κ (268 + 4 * g + 2) ≤ 3) ∧ (-3 ≤ kI κ (268 + 4 * g + 3) ∧ kI κ (268 + 4 * g + 3) ≤ 3)
def KO (κ : Nat → Int32) : Prop := (0 ≤ kI κ 303 ∧ kI κ 303 ≤ 8) ∧ ∀ o : Int, 0 ≤ o → o < kI κ 303 → (-3 ≤ kI κ (204 + 2 * o) ∧ kI κ (204 + 2 * o) ≤ 3) ∧ (-3 ≤ kI κ (204 + 2 * o + 1) ∧ kI κ (204 + 2 * o + 1) ≤ 3)
def KP (κ : Nat → Int32) : Prop := (0 ≤ kI κ 304 ∧ kI κ 304 ≤ 6) ∧ ∀ o : Int, 0 ≤ o → o < kI κ 304 → (1 ≤ kI κ (220 + o) ∧ kI κ (220 + o) ≤ 3000)
def KC (κ : Nat → Int32) : Prop := (0 ≤ kI κ 305 ∧ kI κ 305 ≤ 6) ∧ ∀ o : Int, 0 ≤ o → o < kI κ 305 → (0 ≤ kI κ (226 + 2 * o) ∧ kI κ (226 + 2 * o) ≤ 100) ∧ (0 ≤ kI κ (226 + 2 * o + 1) ∧ kI κ (226 + 2 * o + 1) ≤ 100)
def KW (κ : Nat → Int32) : Prop := KB κ ∧ KT κ ∧ KH κ ∧ KE κ ∧ KR κ ∧ KS κ ∧ KG κ ∧ KO κ ∧ KP κ ∧ KC κ
/-! the class's book -/
def rowS (m : Nat → Nat → Int32) (k : Nat) (w n : Int32) : Prop := m k 0 = w ∧ m k 1 = n
def rowE (m : Nat → Nat → Int32) (k len : Nat) (κ : Nat → Int32) (base cnt : Nat) : Prop := m k 3 = κ cnt ∧ ∀ j, j < len → m (k + 1) j = κ (base + j)
/-- widths and rooms of a book's rows -/
def bookS (m : Nat → Nat → Int32) (B : Nat) : Prop := rowS m (B + 3) 3 6 ∧ rowS m (B + 9) 3 6 ∧ rowS m (B + 18) 3 24 ∧ rowS m (B + 20) 3 12 ∧ rowS m (B + 22) 5 8 ∧ rowS m (B + 24) 5 6 ∧ rowS m (B + 26) 4 8 ∧ rowS m (B + 28) 2 8 ∧ rowS m (B + 30) 1 6 ∧ rowS m (B + 32) 2 6 ∧ rowS m (B + 35) 4 12
/-- a boat -/
def boatT (m : Nat → Nat → Int32) (o : Nat) (κ : Nat → Int32) (b : Nat) : Prop :=
  m o 4 = κ (22 * b + 2) ∧ rowE m (o + 1) 18 κ (22 * b + 4) (22 * b + 3) ∧ ∀ j, j < 24 → m (o + 3) j = zI (pos κ b j 0) ∧ m (o + 4) j = zI (pos κ b j 1) ∧ m (o + 5) j = zI (spd κ b j)
def bookK (m : Nat → Nat → Int32) (B : Nat) (κ : Nat → Int32) : Prop :=
  boatT m (B + 2) κ 0 ∧ boatT m (B + 8) κ 1 ∧ (m (B + 14) 2 = κ 310 ∧ ∀ j, j < 30 → m (B + 15) j = κ (50 + j)) ∧ (∀ j, j < 6 → m (B + 17) j = κ (44 + j)) ∧
  rowE m (B + 18) 72 κ 80 300 ∧ rowE m (B + 20) 36 κ 152 301 ∧
  (m (B + 22) 3 = κ 302 ∧ ∀ w : Nat, (w : Int) < kI κ 302 → m (B + 23) (5 * w) = κ (188 + 2 * w) ∧ m (B + 23) (5 * w + 1) = κ (188 + 2 * w + 1) ∧ m (B + 23) (5 * w + 2) = 0 ∧ m (B + 23) (5 * w + 3) = 0 ∧ m (B + 23) (5 * w + 4) = 23) ∧
  rowE m (B + 24) 30 κ 238 308 ∧ rowE m (B + 26) 32 κ 268 309 ∧ rowE m (B + 28) 16 κ 204 303 ∧ rowE m (B + 30) 6 κ 220 304 ∧ rowE m (B + 32) 12 κ 226 305 ∧ m (B + 35) 3 = κ 307
/-- two laws in two books are the same -/
def lawE (m : Nat → Nat → Int32) (B : Nat) (m' : Nat → Nat → Int32) (B' : Nat) : Prop :=
  m' (B' + 34) 5 = m (B + 34) 5 ∧ m' (B' + 35) 3 = m (B + 35) 3 ∧ (∀ j, j < 48 → m' (B' + 36) j = m (B + 36) j) ∧ (∀ j, j < 400 → m' (B' + 37) j = m (B + 37) j) ∧ (∀ j, j < 400 → m' (B' + 38) j = m (B + 38) j)
def lawK (κ κ' : Nat → Int32) : Prop := ∀ j, (j = 306 ∨ j = 307 ∨ 312 ≤ j) → j < 1112 → κ' j = κ j
abbrev LWt : Type := (Nat → Nat → Int32) → Nat → (Nat → Int32) → Prop
def LWc (LW : LWt) : Prop := ∀ m m' B B' κ κ', lawE m B m' B' → lawK κ κ' → LW m B κ → LW m' B' κ'
/-! what is kept until something changes -/
def freshL (κ : Nat → Int32) (b : Int) (L : List (Bool × Nat)) : List (Bool × Nat) := L.filter (fun it => decide (itF κ it 0 = b))
def sorts (m : Nat → Nat → Int32) (κ : Nat → Int32) : Prop :=
  (∀ k : Nat, (k : Int) < kI κ 300 → bt (m 44 12) k = knownB κ (false, k)) ∧ (∀ k : Nat, (k : Int) < kI κ 301 → bt (m 44 13) k = knownB κ (true, k)) ∧
  ∀ b : Nat, b < 2 → m (46 + 2 * b) 3 = zI (freshL κ b (newsL κ)).length ∧ ∀ i it, (freshL κ b (newsL κ))[i]? = some it → m (47 + 2 * b) (3 * i) = bI it.1 ∧ m (47 + 2 * b) (3 * i + 1) = zI (itF κ it 1) ∧ m (47 + 2 * b) (3 * i + 2) = zI (itF κ it 2)
def ringOK (m : Nat → Nat → Int32) (k : Nat) (P : Int → Bool) : Prop :=
  (∀ j, j < 201 → m (k + 1) j = bI (P j)) ∧ ∀ j, j < 401 → m (k + 2) j = wd (fun i => decide ((j : Int) - 200 + i ≤ 200) && P (szS ((j : Int) - 200 + i)))
def tunes (m : Nat → Nat → Int32) (κ : Nat → Int32) : Prop := ∀ b : Nat, b < 2 → ringOK m (51 + 3 * b) (fun r => reachB κ (kI κ 47) (depS κ b) r)
def laneR (lane y : Nat) : Nat := lane / 49 * 1568 + 49 * y + lane % 49
def plots (m : Nat → Nat → Int32) (κ : Nat → Int32) : Prop := (∀ l, l < 1568 → m 61 l = wd (fun y => fitR κ (laneR l y))) ∧ m 44 14 = zI (fb_ct (fitR κ) 50176)
def reckons (m : Nat → Nat → Int32) (κ : Nat → Int32) : Prop :=
  (∀ k, k < 64 → m 72 k = zI (fb_ct (fun r => decide (missR κ r = k)) 50176)) ∧ ∃ f fr : Nat, m 68 6 = zI f ∧ m 68 7 = zI fr ∧ fr < 50176 ∧ missR κ fr = f ∧ (∀ r, r < 50176 → f ≤ missR κ r) ∧ ∀ r, r < fr → f < missR κ r
def CC (m : Nat → Nat → Int32) (κ : Nat → Int32) : Prop :=
  rowS m 46 3 36 ∧ rowS m 48 3 36 ∧ (m 44 15 ≠ 0 → sorts m κ) ∧ (m 44 16 ≠ 0 → tunes m κ) ∧ (m 44 17 ≠ 0 → plots m κ) ∧ (m 68 8 ≠ 0 → reckons m κ)
/-- the reference's -/
def newsOK (t : Nat → Nat → Int32) (κ : Nat → Int32) : Prop :=
  t 0 10 = zI (newsL κ).length ∧ ∀ i it, (newsL κ)[i]? = some it → t 6 (4 * i) = zI (itF κ it 0) ∧ t 6 (4 * i + 1) = zI (itF κ it 1) ∧ t 6 (4 * i + 2) = bI it.1 ∧ t 6 (4 * i + 3) = zI it.2
def carrOK (t : Nat → Nat → Int32) (κ : Nat → Int32) : Prop := ∀ d e r : Int, 0 ≤ d → d ≤ 9 → 0 ≤ e → e ≤ 9 → 0 ≤ r → r ≤ 200 → t 5 ((10 * d + e) * 201 + r).toNat = bI (reachB κ d e r)
def fitsOK (t : Nat → Nat → Int32) (κ : Nat → Int32) : Prop := (∀ r, r < 50176 → t 7 r = bI (fitR κ r)) ∧ t 0 12 = zI (fb_ct (fitR κ) 50176)
def missOK (t : Nat → Nat → Int32) (κ : Nat → Int32) : Prop := ∀ r, r < 50176 → t 8 r = zI (missR κ r)
def RC (t : Nat → Nat → Int32) (κ : Nat → Int32) : Prop :=
  (-1 ≤ (t 0 7).toInt ∧ (t 0 7).toInt ≤ (t 0 2).toInt) ∧ (-1 ≤ (t 0 13).toInt ∧ (t 0 13).toInt ≤ (t 0 2).toInt) ∧ (-1 ≤ (t 0 15).toInt ∧ (t 0 15).toInt ≤ (t 0 2).toInt) ∧
  (t 0 7 = t 0 2 → carrOK t κ) ∧ (t 0 13 = t 0 2 → fitsOK t κ) ∧ (t 0 15 = t 0 2 → missOK t κ ∧ newsOK t κ)
def imK (t : Nat → Nat → Int32) (k : Nat) : Nat → Int32 := fun j => t 3 (1112 * k + j)
def wordsL : List Int := [110, 111, 105, 115, 101, 32, 108, 111, 115, 115, 32, 101, 97, 114, 32, 105, 102, 32, 111, 114, 32, 97, 110, 100, 32, 110, 111, 116, 32, 115, 112, 101, 101, 100, 32, 100, 101, 112, 116, 104, 32, 114, 97, 110, 103, 101, 32, 98, 101, 108, 108, 32, 98, 111, 97, 116, 32]
/-- what holds of both between calls; c: how many calls at most have been -/
def Inv (LW : LWt) (c : Nat) (σ τ : qMem) : Prop :=
  (0 ≤ (gi τ 0 2).toInt ∧ (gi τ 0 2).toInt ≤ c) ∧
  bookS σ.1 1 ∧ bookS σ.1 89 ∧ bookS σ.1 130 ∧ rowS σ.1 79 4 12 ∧
  bookK σ.1 1 (τ.1 2) ∧ KW (τ.1 2) ∧ LW σ.1 1 (τ.1 2) ∧
  (∀ k, k < 2 → gi σ 43 k = gi τ 4 k ∧ (gi σ 43 k ≠ 0 → bookK σ.1 (89 + 41 * k) (imK τ.1 k) ∧ KW (imK τ.1 k) ∧ LW σ.1 (89 + 41 * k) (imK τ.1 k))) ∧
  (gi σ 0 10 = gi τ 0 28 ∧ 0 ≤ (gi τ 0 28).toInt ∧ (gi τ 0 28).toInt ≤ 400 ∧ ∀ j : Nat, (j : Int) < (gi τ 0 28).toInt → gi τ 18 j = (gi τ 18 j).toInt8.toInt32 ∧ gi σ 86 j = gi τ 18 j &&& 255) ∧
  (gi σ 0 11 = gi τ 0 29 ∧ gi σ 0 12 = gi τ 0 8 ∧ gi σ 0 13 = gi τ 0 0) ∧
  (gi σ 87 0 = gi τ 1 1 ∧ gi σ 87 1 = gi τ 1 2 ∧ gi σ 87 2 = gi τ 1 3 ∧ gi σ 87 3 = gi τ 1 5 ∧ gi σ 87 4 = gi τ 1 6) ∧
  CC σ.1 (τ.1 2) ∧ RC τ.1 (τ.1 2) ∧
  (∀ j x, wordsL[j]? = some x → gi τ 17 j = zI x)
/-- both answer alike, and what holds of both holds on -/
def Both (LW : LWt) (c : Nat) (a b : Option (Int32 × qMem)) : Prop := ∃ v σ τ, a = some (v, σ) ∧ b = some (v, τ) ∧ Inv LW (c + 1) σ τ
