/-! the mathematics: numbers -/
def zI (z : Int) : Int32 := Int32.ofInt z
theorem zI_toInt {a : Int} (h1 : -2147483648 ≤ a) (h2 : a < 2147483648) : (zI a).toInt = a := by
  unfold zI
  exact Int32.toInt_ofInt_of_le (by omega) (by omega)
theorem zI_of (x : Int32) : zI x.toInt = x := by
  unfold zI
  exact Int32.ofInt_toInt x
theorem zI_lo (x : Int32) : -2147483648 ≤ x.toInt := by
  have := Int32.le_toInt x
  omega
theorem zI_hi (x : Int32) : x.toInt < 2147483648 := by
  have := Int32.toInt_lt x
  omega
theorem zI_ex (x : Int32) : ∃ a : Int, -2147483648 ≤ a ∧ a < 2147483648 ∧ x = zI a := ⟨x.toInt, zI_lo x, zI_hi x, (zI_of x).symm⟩
theorem zI_add (a b : Int) : zI a + zI b = zI (a + b) := by
  unfold zI
  exact (Int32.ofInt_add a b).symm
theorem zI_mul (a b : Int) : zI a * zI b = zI (a * b) := by
  unfold zI
  exact (Int32.ofInt_mul a b).symm
theorem zI_neg (a : Int) : -zI a = zI (-a) := by
  unfold zI
  exact (Int32.ofInt_neg a).symm
theorem zI_sub (a b : Int) : zI a - zI b = zI (a - b) := by
  unfold zI
  exact (Int32.ofInt_sub a b).symm
theorem zI_le {a b : Int} (h1 : -2147483648 ≤ a) (h2 : a < 2147483648) (h3 : -2147483648 ≤ b) (h4 : b < 2147483648) : (zI a ≤ zI b) = (a ≤ b) := by
  rw [Int32.le_iff_toInt_le, zI_toInt h1 h2, zI_toInt h3 h4]
theorem zI_lt {a b : Int} (h1 : -2147483648 ≤ a) (h2 : a < 2147483648) (h3 : -2147483648 ≤ b) (h4 : b < 2147483648) : (zI a < zI b) = (a < b) := by
  rw [Int32.lt_iff_toInt_lt, zI_toInt h1 h2, zI_toInt h3 h4]
theorem zI_eq {a b : Int} (h1 : -2147483648 ≤ a) (h2 : a < 2147483648) (h3 : -2147483648 ≤ b) (h4 : b < 2147483648) : (zI a = zI b) = (a = b) := by
  rw [← Int32.toInt_inj, zI_toInt h1 h2, zI_toInt h3 h4]
theorem zI_clamp {a : Int} (h1 : 0 ≤ a) (h2 : a < 2147483648) : (zI a).toNatClampNeg = a.toNat := by
  unfold Int32.toNatClampNeg
  rw [zI_toInt (by omega) h2]
theorem zI_ck {a : Int} {n : Nat} (h1 : -2147483648 ≤ a) (h2 : a < 2147483648) : ck (zI a) n = decide (0 ≤ a ∧ a < n) := by
  have e : (zI a < 0) = (a < 0) := zI_lt (b := 0) h1 h2 (by omega) (by omega)
  unfold ck
  have e2 : (zI a).toNatClampNeg = a.toNat := by
    unfold Int32.toNatClampNeg
    rw [zI_toInt h1 h2]
  simp only [e, e2]
  by_cases h : 0 ≤ a ∧ a < n
  · rw [decide_eq_true h, decide_eq_true]; omega
  · rw [decide_eq_false h, decide_eq_false]; omega
theorem zI_div {a b : Int} (h1 : -2147483648 < a) (h2 : a < 2147483648) (h3 : -2147483648 ≤ b) (h4 : b < 2147483648) : zI a / zI b = zI (a.tdiv b) := by
  have e : (zI a / zI b).toInt = a.tdiv b := by
    have hne : zI a ≠ Int32.minValue := by
      intro e
      have := congrArg Int32.toInt e
      rw [zI_toInt (by omega) h2] at this
      have e2 : Int32.minValue.toInt = -2147483648 := by decide
      omega
    rw [Int32.toInt_div_of_ne_left _ _ hne, zI_toInt (by omega) h2, zI_toInt h3 h4]
  rw [← zI_of (zI a / zI b), e]
theorem zI_divp {a b : Int} (h1 : 0 ≤ a) (h2 : a < 2147483648) (h3 : 0 ≤ b) (h4 : b < 2147483648) : zI a / zI b = zI (a / b) := by
  rw [zI_div (by omega) h2 (by omega) h4, Int.tdiv_eq_ediv_of_nonneg h1]
theorem zI_rem {a b : Int} (h1 : 0 ≤ a) (h2 : a < 2147483648) (h3 : 0 ≤ b) (h4 : b < 2147483648) : irm (zI a) (zI b) = zI (a % b) := by
  show zI a - zI a / zI b * zI b = _
  rw [zI_divp h1 h2 h3 h4, zI_mul, zI_sub]
  congr 1
  have := Int.mul_ediv_add_emod a b
  have h5 : a / b * b = b * (a / b) := Int.mul_comm _ _
  omega
theorem zI_inj {a b : Int} (h1 : -2147483648 ≤ a) (h2 : a < 2147483648) (h3 : -2147483648 ≤ b) (h4 : b < 2147483648) (h : zI a = zI b) : a = b := by
  rwa [zI_eq h1 h2 h3 h4] at h
theorem nI_zI (n : Nat) : nI n = zI n := rfl
theorem zI_nat {a : Int} (h : 0 ≤ a) : zI a = nI a.toNat := by
  rw [nI_zI]
  congr 1
  omega
theorem zl_0 : (0 : Int32) = zI 0 := rfl
theorem zl_1 : (1 : Int32) = zI 1 := rfl
theorem zl_2 : (2 : Int32) = zI 2 := rfl
theorem zl_3 : (3 : Int32) = zI 3 := rfl
theorem zl_4 : (4 : Int32) = zI 4 := rfl
theorem zl_5 : (5 : Int32) = zI 5 := rfl
theorem zl_6 : (6 : Int32) = zI 6 := rfl
theorem zl_7 : (7 : Int32) = zI 7 := rfl
theorem zl_8 : (8 : Int32) = zI 8 := rfl
theorem zl_9 : (9 : Int32) = zI 9 := rfl
theorem zl_10 : (10 : Int32) = zI 10 := rfl
theorem zl_11 : (11 : Int32) = zI 11 := rfl
theorem zl_12 : (12 : Int32) = zI 12 := rfl
theorem zl_13 : (13 : Int32) = zI 13 := rfl
theorem zl_14 : (14 : Int32) = zI 14 := rfl
theorem zl_15 : (15 : Int32) = zI 15 := rfl
theorem zl_16 : (16 : Int32) = zI 16 := rfl
theorem zl_17 : (17 : Int32) = zI 17 := rfl
theorem zl_18 : (18 : Int32) = zI 18 := rfl
theorem zl_19 : (19 : Int32) = zI 19 := rfl
theorem zl_20 : (20 : Int32) = zI 20 := rfl
theorem zl_21 : (21 : Int32) = zI 21 := rfl
theorem zl_22 : (22 : Int32) = zI 22 := rfl
theorem zl_23 : (23 : Int32) = zI 23 := rfl
theorem zl_24 : (24 : Int32) = zI 24 := rfl
theorem zl_25 : (25 : Int32) = zI 25 := rfl
theorem zl_26 : (26 : Int32) = zI 26 := rfl
theorem zl_27 : (27 : Int32) = zI 27 := rfl
theorem zl_28 : (28 : Int32) = zI 28 := rfl
theorem zl_29 : (29 : Int32) = zI 29 := rfl
theorem zl_30 : (30 : Int32) = zI 30 := rfl
theorem zl_31 : (31 : Int32) = zI 31 := rfl
theorem zl_32 : (32 : Int32) = zI 32 := rfl
theorem zl_33 : (33 : Int32) = zI 33 := rfl
theorem zl_34 : (34 : Int32) = zI 34 := rfl
theorem zl_35 : (35 : Int32) = zI 35 := rfl
theorem zl_36 : (36 : Int32) = zI 36 := rfl
theorem zl_37 : (37 : Int32) = zI 37 := rfl
theorem zl_38 : (38 : Int32) = zI 38 := rfl
theorem zl_39 : (39 : Int32) = zI 39 := rfl
theorem zl_40 : (40 : Int32) = zI 40 := rfl
theorem zl_41 : (41 : Int32) = zI 41 := rfl
theorem zl_42 : (42 : Int32) = zI 42 := rfl
theorem zl_43 : (43 : Int32) = zI 43 := rfl
theorem zl_44 : (44 : Int32) = zI 44 := rfl
theorem zl_45 : (45 : Int32) = zI 45 := rfl
theorem zl_46 : (46 : Int32) = zI 46 := rfl
theorem zl_47 : (47 : Int32) = zI 47 := rfl
theorem zl_48 : (48 : Int32) = zI 48 := rfl
theorem zl_49 : (49 : Int32) = zI 49 := rfl
theorem zl_50 : (50 : Int32) = zI 50 := rfl
theorem zl_51 : (51 : Int32) = zI 51 := rfl
theorem zl_57 : (57 : Int32) = zI 57 := rfl
theorem zl_59 : (59 : Int32) = zI 59 := rfl
theorem zl_60 : (60 : Int32) = zI 60 := rfl
theorem zl_61 : (61 : Int32) = zI 61 := rfl
theorem zl_62 : (62 : Int32) = zI 62 := rfl
theorem zl_63 : (63 : Int32) = zI 63 := rfl
theorem zl_64 : (64 : Int32) = zI 64 := rfl
theorem zl_65 : (65 : Int32) = zI 65 := rfl
theorem zl_66 : (66 : Int32) = zI 66 := rfl
theorem zl_67 : (67 : Int32) = zI 67 := rfl
theorem zl_68 : (68 : Int32) = zI 68 := rfl
theorem zl_69 : (69 : Int32) = zI 69 := rfl
theorem zl_70 : (70 : Int32) = zI 70 := rfl
theorem zl_71 : (71 : Int32) = zI 71 := rfl
theorem zl_72 : (72 : Int32) = zI 72 := rfl
theorem zl_73 : (73 : Int32) = zI 73 := rfl
theorem zl_74 : (74 : Int32) = zI 74 := rfl
theorem zl_75 : (75 : Int32) = zI 75 := rfl
theorem zl_76 : (76 : Int32) = zI 76 := rfl
theorem zl_77 : (77 : Int32) = zI 77 := rfl
theorem zl_78 : (78 : Int32) = zI 78 := rfl
theorem zl_79 : (79 : Int32) = zI 79 := rfl
theorem zl_80 : (80 : Int32) = zI 80 := rfl
theorem zl_81 : (81 : Int32) = zI 81 := rfl
theorem zl_86 : (86 : Int32) = zI 86 := rfl
theorem zl_87 : (87 : Int32) = zI 87 := rfl
theorem zl_88 : (88 : Int32) = zI 88 := rfl
theorem zl_89 : (89 : Int32) = zI 89 := rfl
theorem zl_91 : (91 : Int32) = zI 91 := rfl
theorem zl_93 : (93 : Int32) = zI 93 := rfl
theorem zl_97 : (97 : Int32) = zI 97 := rfl
theorem zl_99 : (99 : Int32) = zI 99 := rfl
theorem zl_100 : (100 : Int32) = zI 100 := rfl
theorem zl_108 : (108 : Int32) = zI 108 := rfl
theorem zl_110 : (110 : Int32) = zI 110 := rfl
theorem zl_122 : (122 : Int32) = zI 122 := rfl
theorem zl_144 : (144 : Int32) = zI 144 := rfl
theorem zl_152 : (152 : Int32) = zI 152 := rfl
theorem zl_188 : (188 : Int32) = zI 188 := rfl
theorem zl_199 : (199 : Int32) = zI 199 := rfl
theorem zl_200 : (200 : Int32) = zI 200 := rfl
theorem zl_201 : (201 : Int32) = zI 201 := rfl
theorem zl_204 : (204 : Int32) = zI 204 := rfl
theorem zl_220 : (220 : Int32) = zI 220 := rfl
theorem zl_224 : (224 : Int32) = zI 224 := rfl
theorem zl_226 : (226 : Int32) = zI 226 := rfl
theorem zl_238 : (238 : Int32) = zI 238 := rfl
theorem zl_255 : (255 : Int32) = zI 255 := rfl
theorem zl_268 : (268 : Int32) = zI 268 := rfl
theorem zl_300 : (300 : Int32) = zI 300 := rfl
theorem zl_301 : (301 : Int32) = zI 301 := rfl
theorem zl_302 : (302 : Int32) = zI 302 := rfl
theorem zl_303 : (303 : Int32) = zI 303 := rfl
theorem zl_304 : (304 : Int32) = zI 304 := rfl
theorem zl_305 : (305 : Int32) = zI 305 := rfl
theorem zl_306 : (306 : Int32) = zI 306 := rfl
theorem zl_307 : (307 : Int32) = zI 307 := rfl
theorem zl_308 : (308 : Int32) = zI 308 := rfl
theorem zl_309 : (309 : Int32) = zI 309 := rfl
theorem zl_310 : (310 : Int32) = zI 310 := rfl
theorem zl_312 : (312 : Int32) = zI 312 := rfl
theorem zl_400 : (400 : Int32) = zI 400 := rfl
theorem zl_401 : (401 : Int32) = zI 401 := rfl
theorem zl_712 : (712 : Int32) = zI 712 := rfl
theorem zl_768 : (768 : Int32) = zI 768 := rfl
theorem zl_1000 : (1000 : Int32) = zI 1000 := rfl
theorem zl_1112 : (1112 : Int32) = zI 1112 := rfl
theorem zl_1500 : (1500 : Int32) = zI 1500 := rfl
theorem zl_1568 : (1568 : Int32) = zI 1568 := rfl
theorem zl_2224 : (2224 : Int32) = zI 2224 := rfl
theorem zl_3000 : (3000 : Int32) = zI 3000 := rfl
theorem zl_20100 : (20100 : Int32) = zI 20100 := rfl
theorem zl_50176 : (50176 : Int32) = zI 50176 := rfl
theorem zl_60000 : (60000 : Int32) = zI 60000 := rfl
theorem zl_100000 : (100000 : Int32) = zI 100000 := rfl
theorem zl_117648 : (117648 : Int32) = zI 117648 := rfl
theorem zl_1000000 : (1000000 : Int32) = zI 1000000 := rfl
theorem zl_10000000 : (10000000 : Int32) = zI 10000000 := rfl
theorem zl_1000000000 : (1000000000 : Int32) = zI 1000000000 := rfl
def bI (b : Bool) : Int32 := if b then 1 else 0
theorem bI_t : bI true = 1 := rfl
theorem bI_f : bI false = 0 := rfl
theorem bI_z (b : Bool) : bI b = zI (if b then 1 else 0) := by cases b <;> rfl
theorem bI_0 (b : Bool) : (bI b = 0) = (b = false) := by cases b <;> simp [bI] <;> decide
theorem bI_1 (b : Bool) : (bI b = 1) = (b = true) := by cases b <;> simp [bI] <;> decide
theorem bI_or (b : Bool) : bI b = 0 ∨ bI b = 1 := by cases b <;> simp [bI]
theorem bI_nar (b : Bool) : vp_nar .boolean (bI b) = bI b := by cases b <;> rfl
/-! answers -/
def Ho {α : Type} (o : Option α) (P : α → Prop) : Prop := ∃ a, o = some a ∧ P a
theorem Ho_some {α : Type} {a : α} {P : α → Prop} (h : P a) : Ho (some a) P := ⟨a, rfl, h⟩
theorem Ho_eq {α : Type} {o : Option α} {a : α} {P : α → Prop} (e : o = some a) (h : P a) : Ho o P := ⟨a, e, h⟩
theorem Ho_bind {α β : Type} {o : Option α} {f : α → Option β} {P : α → Prop} {Q : β → Prop} (h : Ho o P) (k : ∀ a, P a → Ho (f a) Q) : Ho (o.bind f) Q := by
  obtain ⟨a, rfl, h⟩ := h
  exact k a h
theorem Ho_mono {α : Type} {o : Option α} {P Q : α → Prop} (h : Ho o P) (k : ∀ a, P a → Q a) : Ho o Q := by
  obtain ⟨a, e, h⟩ := h
  exact ⟨a, e, k a h⟩
theorem Ho_if {α : Type} {c : Prop} [Decidable c] {x y : Option α} {P : α → Prop} (h1 : c → Ho x P) (h2 : ¬ c → Ho y P) : Ho (if c then x else y) P := by
  by_cases h : c
  · rw [if_pos h]; exact h1 h
  · rw [if_neg h]; exact h2 h
theorem Ho_t {α : Type} {c : Prop} [Decidable c] {x y : Option α} {P : α → Prop} (hc : c) (h1 : Ho x P) : Ho (if c then x else y) P := by
  rw [if_pos hc]; exact h1
theorem Ho_f {α : Type} {c : Prop} [Decidable c] {x y : Option α} {P : α → Prop} (hc : ¬ c) (h1 : Ho y P) : Ho (if c then x else y) P := by
  rw [if_neg hc]; exact h1
theorem Ho_get {α : Type} {o : Option α} {P : α → Prop} (h : Ho o P) : ∃ a, o = some a ∧ P a := h
/-- a loop that counts up -/
theorem lp_for {S R : Type} (F : Nat → Int → S → Option R) (I : Int → S → Prop) (Q : R → Prop) (hi : Int)
    (hex : ∀ n s, I hi s → Ho (F (n + 1) hi s) Q)
    (hst : ∀ n i s, i < hi → I i s → (∀ s', I (i + 1) s' → Ho (F n (i + 1) s') Q) → Ho (F (n + 1) i s) Q) :
    ∀ (n : Nat) (lo : Int) (s : S), lo ≤ hi → hi - lo < n → I lo s → Ho (F n lo s) Q := by
  intro n
  induction n with
  | zero => intro lo s h1 h2 _; omega
  | succ n ih =>
    intro lo s h1 h2 h3
    by_cases he : lo = hi
    · subst he; exact hex n s h3
    · exact hst n lo s (by omega) h3 (fun s' h' => ih (lo + 1) s' (by omega) (by omega) h')
/-- a loop with a measure -/
theorem lp_while {S R : Type} (F : Nat → S → Option R) (I : S → Prop) (μ : S → Nat) (Q : R → Prop)
    (hst : ∀ n s, I s → (∀ s', I s' → μ s' < μ s → Ho (F n s') Q) → Ho (F (n + 1) s) Q) :
    ∀ (n : Nat) (s : S), μ s < n → I s → Ho (F n s) Q := by
  intro n
  induction n with
  | zero => intro s h _; omega
  | succ n ih =>
    intro s h1 h2
    exact hst n s h2 (fun s' h' h3 => ih s' (by omega) h')
/-! memory -/
theorem gi_si {σ : qMem} {k j a b : Nat} {x : Int32} : gi (si σ k j x) a b = if a = k ∧ b = j then x else gi σ a b := by
  unfold gi si sr upd
  by_cases h : a = k
  · subst h
    by_cases h2 : b = j
    · simp [h2]
    · simp [h2]
  · simp [h]
theorem gi_slx {σ : qMem} {k j a b : Nat} {x : Int64} : gi (sl σ k j x) a b = gi σ a b := gi_sl
theorem gl_slx {σ : qMem} {k j a b : Nat} {x : Int64} : gl (sl σ k j x) a b = if a = k ∧ b = j then x else gl σ a b := by
  unfold gl sl slr vp_updL
  by_cases h : a = k
  · subst h
    by_cases h2 : b = j
    · simp [h2]
    · simp [h2]
  · simp [h]
theorem gl_sr {σ : qMem} {k a b : Nat} {f : Nat → Int32} : gl (sr σ k f) a b = gl σ a b := rfl
theorem gi_sr {σ : qMem} {k a b : Nat} {f : Nat → Int32} : gi (sr σ k f) a b = if a = k then f b else gi σ a b := by
  unfold gi sr
  by_cases h : a = k
  · simp [h]
  · simp [h]
/-- the rows of ints, but for some, are the same; so are the longs, but for some -/
def Fr (K : Nat → Prop) (σ τ : qMem) : Prop := (∀ k, ¬ K k → τ.1 k = σ.1 k) ∧ (∀ k, ¬ K k → τ.2 k = σ.2 k)
theorem Fr_refl {K : Nat → Prop} {σ : qMem} : Fr K σ σ := ⟨fun _ _ => rfl, fun _ _ => rfl⟩
theorem Fr_trans {K : Nat → Prop} {σ τ υ : qMem} (h : Fr K σ τ) (h2 : Fr K τ υ) : Fr K σ υ := ⟨fun k hk => (h2.1 k hk).trans (h.1 k hk), fun k hk => (h2.2 k hk).trans (h.2 k hk)⟩
theorem Fr_sub {K J : Nat → Prop} {σ τ : qMem} (h : Fr K σ τ) (hs : ∀ k, K k → J k) : Fr J σ τ := ⟨fun k hk => h.1 k (fun q => hk (hs k q)), fun k hk => h.2 k (fun q => hk (hs k q))⟩
theorem Fr_gi {K : Nat → Prop} {σ τ : qMem} (h : Fr K σ τ) {k : Nat} (hk : ¬ K k) (j : Nat) : gi τ k j = gi σ k j := by unfold gi; rw [h.1 k hk]
theorem Fr_gl {K : Nat → Prop} {σ τ : qMem} (h : Fr K σ τ) {k : Nat} (hk : ¬ K k) (j : Nat) : gl τ k j = gl σ k j := by unfold gl; rw [h.2 k hk]
theorem Fr_si {K : Nat → Prop} {σ τ : qMem} {k j : Nat} {x : Int32} (h : Fr K σ τ) (hk : K k) : Fr K σ (si τ k j x) := by
  refine ⟨fun a ha => ?_, fun a ha => h.2 a ha⟩
  have e : a ≠ k := fun e => ha (e ▸ hk)
  have : (si τ k j x).1 a = τ.1 a := by simp [si, sr, e]
  rw [this]; exact h.1 a ha
theorem Fr_sr {K : Nat → Prop} {σ τ : qMem} {k : Nat} {f : Nat → Int32} (h : Fr K σ τ) (hk : K k) : Fr K σ (sr τ k f) := by
  refine ⟨fun a ha => ?_, fun a ha => h.2 a ha⟩
  have e : a ≠ k := fun e => ha (e ▸ hk)
  have : (sr τ k f).1 a = τ.1 a := by simp [sr, e]
  rw [this]; exact h.1 a ha
theorem Fr_sl {K : Nat → Prop} {σ τ : qMem} {k j : Nat} {x : Int64} (h : Fr K σ τ) (hk : K k) : Fr K σ (sl τ k j x) := by
  refine ⟨fun a ha => h.1 a ha, fun a ha => ?_⟩
  have e : a ≠ k := fun e => ha (e ▸ hk)
  have : (sl τ k j x).2 a = τ.2 a := by simp [sl, slr, e]
  rw [this]; exact h.2 a ha
/-! the JDK's own, pure -/
theorem e_max {a b : Int} (h1 : -2147483648 ≤ a) (h2 : a < 2147483648) (h3 : -2147483648 ≤ b) (h4 : b < 2147483648) : fJ9_max_7cf53 (zI a) (zI b) = some (zI (max a b)) := by
  unfold fJ9_max_7cf53
  simp only [zI_lt h1 h2 h3 h4]
  split <;> congr 2 <;> omega
theorem e_min {a b : Int} (h1 : -2147483648 ≤ a) (h2 : a < 2147483648) (h3 : -2147483648 ≤ b) (h4 : b < 2147483648) : fJ9_min_7cf53 (zI a) (zI b) = some (zI (min a b)) := by
  unfold fJ9_min_7cf53
  simp only [zI_lt h3 h4 h1 h2]
  split <;> congr 2 <;> omega
theorem e_abs {a : Int} (h1 : -2147483648 < a) (h2 : a < 2147483648) : fJ9_abs_0f7a4 (zI a) = some (zI (max a (-a))) := by
  unfold fJ9_abs_0f7a4
  simp (disch := omega) only [zl_0, zI_le, zI_neg]
  split <;> congr 2 <;> omega
theorem zI_xor_sign {a b : Int} (h1 : -2147483648 ≤ a) (h2 : a < 2147483648) (h3 : -2147483648 ≤ b) (h4 : b < 2147483648) : (0 ≤ (zI a ^^^ zI b)) = ((0 ≤ a) ↔ (0 ≤ b)) := by
  have key : ∀ x : Int32, (0 ≤ x) ↔ x.toBitVec.msb = false := by
    intro x
    rw [Int32.le_iff_toInt_le]
    show (0 : Int) ≤ x.toBitVec.toInt ↔ _
    rw [BitVec.msb_eq_toInt]
    constructor
    · intro h; exact decide_eq_false (by omega)
    · intro h; have := of_decide_eq_false h; omega
  have ea : (0 ≤ zI a) = (0 ≤ a) := by rw [zl_0, zI_le (by omega) (by omega) h1 h2]
  have eb : (0 ≤ zI b) = (0 ≤ b) := by rw [zl_0, zI_le (by omega) (by omega) h3 h4]
  have h : (0 ≤ (zI a ^^^ zI b)) ↔ ((0 ≤ zI a) ↔ (0 ≤ zI b)) := by
    rw [key, key, key, Int32.toBitVec_xor, BitVec.msb_xor]
    cases (zI a).toBitVec.msb <;> cases (zI b).toBitVec.msb <;> simp
  rw [ea, eb] at h
  exact propext h
theorem ediv_uniq {a b q r : Int} (hb : 0 < b) (h : a = b * q + r) (h0 : 0 ≤ r) (h1 : r < b) : a / b = q := by
  rw [h, Int.add_comm, Int.add_mul_ediv_left r q (by omega), Int.ediv_eq_zero_of_lt h0 h1]
  omega
theorem tdiv_mod_neg {a b : Int} (ha : a < 0) (hb : 0 < b) : ∃ r, a = b * a.tdiv b + r ∧ -b < r ∧ r ≤ 0 := by
  refine ⟨a.tmod b, (Int.mul_tdiv_add_tmod a b).symm, ?_, ?_⟩
  · have := Int.lt_tmod_of_pos a hb
    omega
  · have h : a.tmod b = -((-a).tmod b) := by rw [Int.neg_tmod]; omega
    have := Int.tmod_nonneg b (show 0 ≤ -a by omega)
    omega
theorem e_fdiv {a b : Int} (h1 : -2147483648 < a) (h2 : a < 2147483648) (h3 : 0 < b) (h4 : b < 2147483648) : fJ9_floorDiv_7cf53 (zI a) (zI b) = some (zI (a / b)) := by
  unfold fJ9_floorDiv_7cf53
  have e0 : (zI b = 0) = (b = 0) := by rw [zl_0, zI_eq (by omega) h4 (by omega) (by omega)]
  simp (disch := omega) only [e0, zI_xor_sign, zI_div]
  rw [if_neg (by omega)]
  by_cases ha : 0 ≤ a
  · rw [if_pos (by omega), Int.tdiv_eq_ediv_of_nonneg ha]
  · rw [if_neg (by omega)]
    obtain ⟨r, hr, hr1, hr2⟩ := tdiv_mod_neg (a := a) (b := b) (by omega) h3
    have hm : b * a.tdiv b = a.tdiv b * b := Int.mul_comm _ _
    simp (disch := omega) only [zI_mul, zl_1, zI_sub, zI_eq]
    by_cases h0 : r = 0
    · rw [if_pos (by omega), ediv_uniq (q := a.tdiv b) (r := 0) h3 (by omega) (by omega) h3]
    · rw [if_neg (by omega), ediv_uniq (q := a.tdiv b - 1) (r := r + b) h3 (by rw [Int.mul_sub]; omega) (by omega) (by omega)]
theorem e_fdivn {a b : Int} (h1 : -2147483648 < a) (h2 : a < 2147483648) (h3 : b < 0) (h4 : -2147483648 < b) : fJ9_floorDiv_7cf53 (zI a) (zI b) = some (zI ((-a) / (-b))) := by
  unfold fJ9_floorDiv_7cf53
  have e0 : (zI b = 0) = (b = 0) := by rw [zl_0, zI_eq (by omega) (by omega) (by omega) (by omega)]
  simp (disch := omega) only [e0, zI_xor_sign, zI_div]
  rw [if_neg (by omega)]
  have hn : a.tdiv b = (-a).tdiv (-b) := by rw [Int.neg_tdiv_neg]
  by_cases ha : 0 ≤ a
  · rw [if_neg (by omega)]
    rw [hn]
    by_cases h0 : a = 0
    · subst h0
      simp only [Int.neg_zero, Int.zero_tdiv, Int.zero_ediv, zI_mul, Int.zero_mul]
      rw [if_pos trivial]
    · obtain ⟨r, hr, hr1, hr2⟩ := tdiv_mod_neg (a := -a) (b := -b) (by omega) (by omega)
      have hm : (-b) * (-a).tdiv (-b) = -((-a).tdiv (-b) * b) := by rw [Int.neg_mul, Int.mul_comm]
      simp (disch := omega) only [zI_mul, zl_1, zI_sub, zI_eq]
      by_cases h0 : r = 0
      · rw [if_pos (by omega), ediv_uniq (q := (-a).tdiv (-b)) (r := 0) (by omega) (by omega) (by omega) (by omega)]
      · rw [if_neg (by omega), ediv_uniq (q := (-a).tdiv (-b) - 1) (r := r + -b) (by omega) (by rw [Int.mul_sub]; omega) (by omega) (by omega)]
  · rw [if_pos (by omega), hn, Int.tdiv_eq_ediv_of_nonneg (by omega)]
theorem e_fmod {a b : Int} (h1 : -2147483648 < a) (h2 : a < 2147483648) (h3 : 0 < b) (h4 : b < 2147483648) : fJ9_floorMod_7cf53 (zI a) (zI b) = some (zI (a % b)) := by
  unfold fJ9_floorMod_7cf53
  have e0 : (zI b = 0) = (b = 0) := by rw [zl_0, zI_eq (by omega) h4 (by omega) (by omega)]
  have em : irm (zI a) (zI b) = zI (a - a.tdiv b * b) := by
    show zI a - zI a / zI b * zI b = _
    rw [zI_div h1 h2 (by omega) h4, zI_mul, zI_sub]
  have hd := Int.mul_ediv_add_emod a b
  have hm : b * a.tdiv b = a.tdiv b * b := Int.mul_comm _ _
  simp (disch := omega) only [e0, zI_xor_sign, em, zI_add]
  rw [if_neg (by omega)]
  by_cases ha : 0 ≤ a
  · have ht := Int.tdiv_eq_ediv_of_nonneg (b := b) ha
    rw [if_pos (by omega)]
    congr 2
    rw [ht] at hm ⊢
    omega
  · rw [if_neg (by omega)]
    obtain ⟨r, hr, hr1, hr2⟩ := tdiv_mod_neg (a := a) (b := b) (by omega) h3
    simp (disch := omega) only [zl_0, zI_eq]
    by_cases h0 : r = 0
    · have := ediv_uniq (a := a) (q := a.tdiv b) (r := 0) h3 (by omega) (by omega) h3
      rw [if_pos (by omega)]
      congr 2
      rw [this] at hd
      omega
    · have := ediv_uniq (a := a) (q := a.tdiv b - 1) (r := r + b) h3 (by rw [Int.mul_sub]; omega) (by omega) (by omega)
      rw [if_neg (by omega)]
      congr 2
      rw [this, Int.mul_sub] at hd
      omega
