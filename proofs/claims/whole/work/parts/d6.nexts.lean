/-! next: all of it -/
def nxR (H M : Nat) (s t : qMem) : Prop := (∀ a, a < 24 → gi s 74 a = gi t 13 a) ∧ (∀ a b, a < 24 → b < 24 → (H ≤ b ∨ H ≤ a) → bt (gi t 13 a) b = false) ∧ gi s 73 6 = zI M ∧ gi t 2 300 = zI H
def nfC (σ σ' : qMem) : Prop := ∀ k j, ¬ ((k = 73 ∧ j = 4) ∨ (74 ≤ k ∧ k ≤ 76)) → gi σ' k j = gi σ k j
def nfM (τ τ' : qMem) : Prop := ∀ k j, ¬ ((k = 0 ∧ j = 20) ∨ (10 ≤ k ∧ k ≤ 13)) → gi τ' k j = gi τ k j
theorem nfC_t {a b c : qMem} (h : nfC a b) (h2 : nfC b c) : nfC a c := fun k j hk => (h2 k j hk).trans (h k j hk)
theorem nfM_t {a b c : qMem} (h : nfM a b) (h2 : nfM b c) : nfM a c := fun k j hk => (h2 k j hk).trans (h k j hk)
/-- a row of cells is copied -/
theorem r_cp180 {N : Nat} {c39 : Int32 → Int32 → Int32 → qMem → Option (Int32 × qMem)} {v1 v2 v4 : Int32} {i : Nat} {t : qMem} (hi : i < 24) : ∀ (d x f : Nat) (u : qMem), x + d = 24 → d < f → (∀ a b, gi u a b = if a = 10 ∧ b < x then (if b = i then 0 else gi t 13 b) else gi t a b) → ∃ t', fX12_next_l180 N c39 f v1 v2 (zI i) v4 (zI x) u = fX12_next_b217 N c39 v1 v2 (zI i) v4 t' ∧ ∀ a b, gi t' a b = if a = 10 ∧ b < 24 then (if b = i then 0 else gi t 13 b) else gi t a b := by
  intro d
  induction d with
  | zero =>
    intro x f u hx hf hu
    obtain ⟨f, rfl⟩ : ∃ y, f = y + 1 := ⟨f - 1, by omega⟩
    have : x = 24 := by omega
    subst this
    refine ⟨u, ?_, hu⟩
    show fX12_next_s180 N c39 _ v1 v2 (zI i) v4 (zI (24 : Nat)) u = _
    unfold fX12_next_s180
    rw [if_pos (by decide)]
  | succ d ih =>
    intro x f u hx hf hu
    obtain ⟨f, rfl⟩ : ∃ y, f = y + 1 := ⟨f - 1, by omega⟩
    show ∃ t', fX12_next_s180 N c39 (fX12_next_l180 N c39 f) v1 v2 (zI i) v4 (zI x) u = _ ∧ _
    unfold fX12_next_s180 fX12_next_b210
    have c24 : (24 ≤ zI x) = False := by rw [show (24 : Int32) = zI 24 from rfl, zI_le (by omega) (by omega) (by omega) (by omega)]; exact eq_false (by omega)
    have kx : (ck (zI x) 24 = true) = True := zI_ckT (by omega) (by omega) (by omega)
    have zx : (zI x).toNatClampNeg = x := by rw [zI_clamp (by omega) (by omega)]; omega
    have ce : (zI x = zI i) = (x = i) := by rw [zI_eq (by omega) (by omega) (by omega) (by omega)]; exact propext (by omega)
    have gx : gi u 13 x = gi t 13 x := by rw [hu, if_neg (by omega)]
    simp only [c24, if_false, ce, kx, zx, if_true, nmM, gx]
    rw [show zI x + 1 = zI ((x + 1 : Nat) : Int) by rw [show (1 : Int32) = zI 1 from rfl, zI_add]; rfl]
    have step : ∀ w : Int32, w = (if x = i then 0 else gi t 13 x) → ∃ t', fX12_next_l180 N c39 f v1 v2 (zI i) v4 (zI ((x + 1 : Nat) : Int)) (si u 10 x w) = fX12_next_b217 N c39 v1 v2 (zI i) v4 t' ∧ ∀ a b, gi t' a b = if a = 10 ∧ b < 24 then (if b = i then 0 else gi t 13 b) else gi t a b := fun w hw => by
      refine ih (x + 1) f _ (by omega) (by omega) (fun a b => ?_)
      rw [gi_si]
      by_cases q : a = 10 ∧ b = x
      · rw [if_pos q, if_pos (by omega), hw, q.2]
      · rw [if_neg q, hu]
        by_cases q2 : a = 10 ∧ b < x
        · rw [if_pos q2, if_pos (c := a = 10 ∧ b < x + 1) (by omega)]
        · rw [if_neg q2, if_neg (c := a = 10 ∧ b < x + 1) (by omega)]
    by_cases q : x = i
    · rw [if_pos q]; exact step 0 (by rw [if_pos q])
    · rw [if_neg q]; exact step _ (by rw [if_neg q])
theorem r_cp119 {N : Nat} {c39 : Int32 → Int32 → Int32 → qMem → Option (Int32 × qMem)} {c80 : Int32 → Int32 → Int32 → Int32 → Int32 → qMem → Option (Int32 × qMem)} {v1 v2 v3 v4 v5 : Int32} {t : qMem} : ∀ (d x f : Nat) (u : qMem), x + d = 24 → d < f → (∀ a b, gi u a b = if a = 10 ∧ b < x then gi t 13 b else gi t a b) → ∃ t', fX12_next_l119 N c39 c80 f v1 v2 v3 v4 v5 (zI x) u = ((fX12_fixes N v3 v5 t').bind fun y6 => ((fX12_joins N y6).bind fun y7 => (if y7.1 = v2 then (fX12_next_b165 N c39 c80 v1 v2 v3 v5 v5 y7.2) else (fX12_next_b165 N c39 c80 v1 v2 v3 v4 v5 y7.2)))) ∧ ∀ a b, gi t' a b = if a = 10 ∧ b < 24 then gi t 13 b else gi t a b := by
  intro d
  induction d with
  | zero =>
    intro x f u hx hf hu
    obtain ⟨f, rfl⟩ : ∃ y, f = y + 1 := ⟨f - 1, by omega⟩
    have : x = 24 := by omega
    subst this
    refine ⟨u, ?_, hu⟩
    show fX12_next_s119 N c39 c80 _ v1 v2 v3 v4 v5 (zI (24 : Nat)) u = _
    unfold fX12_next_s119
    rw [if_pos (by decide)]
  | succ d ih =>
    intro x f u hx hf hu
    obtain ⟨f, rfl⟩ : ∃ y, f = y + 1 := ⟨f - 1, by omega⟩
    show ∃ t', fX12_next_s119 N c39 c80 (fX12_next_l119 N c39 c80 f) v1 v2 v3 v4 v5 (zI x) u = _ ∧ _
    unfold fX12_next_s119
    have c24 : (24 ≤ zI x) = False := by rw [show (24 : Int32) = zI 24 from rfl, zI_le (by omega) (by omega) (by omega) (by omega)]; exact eq_false (by omega)
    have kx : (ck (zI x) 24 = true) = True := zI_ckT (by omega) (by omega) (by omega)
    have zx : (zI x).toNatClampNeg = x := by rw [zI_clamp (by omega) (by omega)]; omega
    have gx : gi u 13 x = gi t 13 x := by rw [hu, if_neg (by omega)]
    simp only [c24, if_false, kx, zx, if_true, nmM, gx]
    rw [show zI x + 1 = zI ((x + 1 : Nat) : Int) by rw [show (1 : Int32) = zI 1 from rfl, zI_add]; rfl]
    refine ih (x + 1) f _ (by omega) (by omega) (fun a b => ?_)
    rw [gi_si]
    by_cases q : a = 10 ∧ b = x
    · rw [if_pos q, if_pos (by omega), q.2]
    · rw [if_neg q, hu]
      by_cases q2 : a = 10 ∧ b < x
      · rw [if_pos q2, if_pos (by omega)]
      · rw [if_neg q2, if_neg (by omega)]
theorem r_cp50 {N : Nat} {c39 : Int32 → Int32 → Int32 → qMem → Option (Int32 × qMem)} {v1 v2 v3 v4 : Int32} {t : qMem} : ∀ (d x f : Nat) (u : qMem), x + d = 24 → d < f → (∀ a b, gi u a b = if a = 13 ∧ b < x then gi t 10 b else gi t a b) → ∃ t', fX12_next_l50 N c39 f v1 v2 v3 v4 (zI x) u = fX12_next_l80 N c39 N v1 v2 v3 v4 0 t' ∧ ∀ a b, gi t' a b = if a = 13 ∧ b < 24 then gi t 10 b else gi t a b := by
  intro d
  induction d with
  | zero =>
    intro x f u hx hf hu
    obtain ⟨f, rfl⟩ : ∃ y, f = y + 1 := ⟨f - 1, by omega⟩
    have : x = 24 := by omega
    subst this
    refine ⟨u, ?_, hu⟩
    show fX12_next_s50 N c39 _ v1 v2 v3 v4 (zI (24 : Nat)) u = _
    unfold fX12_next_s50
    rw [if_pos (by decide)]
  | succ d ih =>
    intro x f u hx hf hu
    obtain ⟨f, rfl⟩ : ∃ y, f = y + 1 := ⟨f - 1, by omega⟩
    show ∃ t', fX12_next_s50 N c39 (fX12_next_l50 N c39 f) v1 v2 v3 v4 (zI x) u = _ ∧ _
    unfold fX12_next_s50
    have c24 : (24 ≤ zI x) = False := by rw [show (24 : Int32) = zI 24 from rfl, zI_le (by omega) (by omega) (by omega) (by omega)]; exact eq_false (by omega)
    have kx : (ck (zI x) 24 = true) = True := zI_ckT (by omega) (by omega) (by omega)
    have zx : (zI x).toNatClampNeg = x := by rw [zI_clamp (by omega) (by omega)]; omega
    have gx : gi u 10 x = gi t 10 x := by rw [hu, if_neg (by omega)]
    simp only [c24, if_false, kx, zx, if_true, nmM, gx]
    rw [show zI x + 1 = zI ((x + 1 : Nat) : Int) by rw [show (1 : Int32) = zI 1 from rfl, zI_add]; rfl]
    refine ih (x + 1) f _ (by omega) (by omega) (fun a b => ?_)
    rw [gi_si]
    by_cases q : a = 13 ∧ b = x
    · rw [if_pos q, if_pos (by omega), q.2]
    · rw [if_neg q, hu]
      by_cases q2 : a = 13 ∧ b < x
      · rw [if_pos q2, if_pos (by omega)]
      · rw [if_neg q2, if_neg (by omega)]
/-- what becomes of a place, by both -/
theorem sim_place {N H M i : Nat} {A : Int32} {c4 c39 : Int32 → Int32 → Int32 → qMem → Option (Int32 × qMem)} {σ τ : qMem} (hN : 200000 ≤ N) (hH : H ≤ 24) (hM : M ≤ 24) (hi : i < 24) : ∀ (d k f g : Nat) (s t : qMem), k + d = 24 → d < f → d < g → nxR H M s t → nfC σ s → nfM τ t →
    ∃ (fd : Int32) (s' t' : qMem), fX4_firstNext_l20 N c4 f A (-1) (zI i) (zI k) s = c4 A fd (zI ((i + 1 : Nat) : Int)) s' ∧ fX12_next_l80 N c39 g A (zI M) (zI i) (-1) (zI k) t = fX12_next_b217 N c39 A (zI M) (zI i) fd t' ∧ roR 74 H s' t' ∧ gi s' 73 6 = zI M ∧ nfC σ s' ∧ nfM τ t' := by
  have ki : (ck (zI i) 24 = true) = True := zI_ckT (by omega) (by omega) (by omega)
  have zi : (zI i).toNatClampNeg = i := by rw [zI_clamp (by omega) (by omega)]; omega
  have ni : zI i + 1 = zI ((i + 1 : Nat) : Int) := by rw [show (1 : Int32) = zI 1 from rfl, zI_add]; rfl
  -- nothing found: the place is cleared
  have b80 : ∀ s, fX4_firstNext_b80 N c4 A (-1) (zI i) s = c4 A (-1) (zI ((i + 1 : Nat) : Int)) (si s 74 i 0) := fun s => by
    unfold fX4_firstNext_b80 fX4_firstNext_b92
    simp only [if_true, ki, zi, nmM, ni]
  have clear : ∀ s t, nxR H M s t → nfC σ s → nfM τ t → ∃ (s' t' : qMem), s' = si s 74 i 0 ∧ fX12_next_b171 N c39 A (zI M) (zI i) (-1) t = fX12_next_b217 N c39 A (zI M) (zI i) (-1) t' ∧ roR 74 H s' t' ∧ gi s' 73 6 = zI M ∧ nfC σ s' ∧ nfM τ t' := by
    intro s t ⟨r1, r2, r3, r4⟩ fc fm
    obtain ⟨t', e1, g1⟩ := r_cp180 (N := N) (c39 := c39) (v1 := A) (v2 := zI M) (v4 := -1) (t := t) hi 24 0 N t (by omega) (by omega) (fun a b => by rw [if_neg (by omega)])
    refine ⟨_, t', rfl, ?_, ⟨fun a ha => ?_, fun a b ha hb hh => ?_, ?_⟩, ?_, fun a b hab => ?_, fun a b hab => ?_⟩
    · unfold fX12_next_b171
      rw [if_pos rfl]
      exact e1
    · have e2 : gi t' 10 a = if a = i then 0 else gi t 13 a := by rw [g1, if_pos ⟨rfl, ha⟩]
      rw [gi_si, e2]
      by_cases e : a = i
      · rw [if_pos ⟨rfl, e⟩, if_pos e]
      · rw [if_neg (by omega), if_neg e]; exact r1 a ha
    · rw [g1, if_pos ⟨rfl, ha⟩]
      by_cases e : a = i
      · rw [if_pos e]; exact b_0 b
      · rw [if_neg e]; exact r2 a b ha hb hh
    · rw [g1, if_neg (by omega)]; exact r4
    · rw [gi_si, if_neg (by omega)]; exact r3
    · rw [gi_si, if_neg (by omega)]; exact fc a b hab
    · rw [g1, if_neg (by omega)]; exact fm a b hab
  -- the class's way past the last one heard
  have tail : ∀ (d k f : Nat) (s t : qMem), k + d = 24 → d < f → H ≤ k → nxR H M s t → fX4_firstNext_l20 N c4 f A (-1) (zI i) (zI k) s = fX4_firstNext_b80 N c4 A (-1) (zI i) s := by
    intro d
    induction d with
    | zero =>
      intro k f s t hk hf hHk hr
      obtain ⟨f, rfl⟩ : ∃ y, f = y + 1 := ⟨f - 1, by omega⟩
      have : k = 24 := by omega
      subst this
      show fX4_firstNext_s20 N c4 _ A (-1) (zI i) (zI (24 : Nat)) s = _
      unfold fX4_firstNext_s20
      rw [if_pos (by decide)]
    | succ d ih =>
      intro k f s t hk hf hHk hr
      obtain ⟨f, rfl⟩ : ∃ y, f = y + 1 := ⟨f - 1, by omega⟩
      show fX4_firstNext_s20 N c4 _ A (-1) (zI i) (zI k) s = _
      unfold fX4_firstNext_s20 fX4_firstNext_b74
      have c24 : (24 ≤ zI k) = False := by rw [show (24 : Int32) = zI 24 from rfl, zI_le (by omega) (by omega) (by omega) (by omega)]; exact eq_false (by omega)
      have tc : ((gi s 74 i) &&& ((1 : Int32) <<< (zI k &&& 31)) = 0) = True := by rw [t_and1 (by omega), hr.1 i hi, hr.2.1 i k hi (by omega) (Or.inl hHk)]; exact eq_true rfl
      simp only [c24, if_false, if_true, ki, zi, tc]
      rw [show zI k + 1 = zI ((k + 1 : Nat) : Int) by rw [show (1 : Int32) = zI 1 from rfl, zI_add]; rfl]
      exact ih (k + 1) f s t (by omega) (by omega) (by omega) hr
  intro d
  induction d with
  | zero =>
    intro k f g s t hk hf hg hr fc fm
    obtain ⟨s', t', e1, e2, e3, e4, e5, e6⟩ := clear s t hr fc fm
    obtain ⟨g, rfl⟩ : ∃ y, g = y + 1 := ⟨g - 1, by omega⟩
    refine ⟨-1, s', t', ?_, ?_, e3, e4, e5, e6⟩
    · rw [tail 0 k f s t (by omega) (by omega) (by omega) hr, b80, e1]
    · rw [← e2]
      show fX12_next_s80 N c39 _ A (zI M) (zI i) (-1) (zI k) t = _
      unfold fX12_next_s80
      have c1 : (zI (H : Int) ≤ zI k) = True := by rw [zI_le (by omega) (by omega) (by omega) (by omega)]; exact eq_true (by omega)
      rw [if_pos (by decide), show (300 : Int32).toNatClampNeg = 300 from rfl, hr.2.2.2]
      simp only [c1, if_true]
  | succ d ih =>
    intro k f g s t hk hf hg hr fc fm
    obtain ⟨g, rfl⟩ : ∃ y, g = y + 1 := ⟨g - 1, by omega⟩
    have c1 : (zI (H : Int) ≤ zI k) = (H ≤ k) := by rw [zI_le (by omega) (by omega) (by omega) (by omega)]; exact propext (by omega)
    have nk : zI k + 1 = zI ((k + 1 : Nat) : Int) := by rw [show (1 : Int32) = zI 1 from rfl, zI_add]; rfl
    have eM : fX12_next_l80 N c39 (g + 1) A (zI M) (zI i) (-1) (zI k) t = if H ≤ k then fX12_next_b171 N c39 A (zI M) (zI i) (-1) t else if bt (gi t 13 i) k = false then fX12_next_l80 N c39 g A (zI M) (zI i) (-1) (zI ((k + 1 : Nat) : Int)) t else fX12_next_l119 N c39 (fX12_next_l80 N c39 g) N A (zI M) (zI i) (-1) (zI k) 0 t := by
      show fX12_next_s80 N c39 _ A (zI M) (zI i) (-1) (zI k) t = _
      unfold fX12_next_s80 fX12_next_b165
      rw [if_pos (by decide), show (300 : Int32).toNatClampNeg = 300 from rfl, hr.2.2.2]
      simp only [c1, if_true, ki, zi, t_sh1 (show k < 32 by omega), bI_0, nk]
    by_cases q0 : H ≤ k
    · obtain ⟨s', t', e1, e2, e3, e4, e5, e6⟩ := clear s t hr fc fm
      refine ⟨-1, s', t', ?_, ?_, e3, e4, e5, e6⟩
      · rw [tail (d + 1) k f s t (by omega) (by omega) q0 hr, b80, e1]
      · rw [eM, if_pos q0, e2]
    · rw [eM, if_neg q0]
      obtain ⟨f, rfl⟩ : ∃ y, f = y + 1 := ⟨f - 1, by omega⟩
      have c24 : (24 ≤ zI k) = False := by rw [show (24 : Int32) = zI 24 from rfl, zI_le (by omega) (by omega) (by omega) (by omega)]; exact eq_false (by omega)
      have tc : ((gi s 74 i) &&& ((1 : Int32) <<< (zI k &&& 31)) = 0) = (bt (gi t 13 i) k = false) := by rw [t_and1 (by omega), hr.1 i hi]
      have eC : fX4_firstNext_l20 N c4 (f + 1) A (-1) (zI i) (zI k) s = if bt (gi t 13 i) k = false then fX4_firstNext_l20 N c4 f A (-1) (zI i) (zI ((k + 1 : Nat) : Int)) s else ((fX4_canBe N (zI i) (zI k) s).bind fun y1 => (if y1.1 = 0 then fX4_firstNext_l20 N c4 f A (-1) (zI i) (zI ((k + 1 : Nat) : Int)) y1.2 else (if cpOK 0 0 24 24 24 = true then (fX4_firstNext_l20 N c4 f A (zI k) (zI i) (zI ((k + 1 : Nat) : Int)) (cp y1.2 75 74 0 0 24)) else none))) := by
        show fX4_firstNext_s20 N c4 _ A (-1) (zI i) (zI k) s = _
        unfold fX4_firstNext_s20 fX4_firstNext_b74
        simp only [c24, if_false, if_true, ki, zi, tc, nk, nmM]
      rw [eC]
      by_cases q1 : bt (gi t 13 i) k = false
      · rw [if_pos q1, if_pos q1]
        exact ih (k + 1) f g s t (by omega) (by omega) (by omega) hr fc fm
      · rw [if_neg q1, if_neg q1]
        have q1' : bt (gi t 13 i) k = true := by cases h : bt (gi t 13 i) k with
          | false => exact absurd h q1
          | true => rfl
        obtain ⟨t1, e1, g1⟩ := r_cp119 (N := N) (c39 := c39) (c80 := fX12_next_l80 N c39 g) (v1 := A) (v2 := zI M) (v3 := zI i) (v4 := -1) (v5 := zI k) (t := t) 24 0 N t (by omega) (by omega) (fun a b => by rw [if_neg (by omega)])
        have e1' : fX12_next_l119 N c39 (fX12_next_l80 N c39 g) N A (zI M) (zI i) (-1) (zI k) 0 t = _ := e1
        have g13 : ∀ a, gi t1 13 a = gi t 13 a := fun a => by rw [g1, if_neg (by omega)]
        obtain ⟨v, s', t2, t', v1, x1, x2, x3, ro, fs, ft⟩ := sim_try (N := N) (H := H) (M := M) (i := i) (k := k) (s := s) (t := t1) hN hH hi (by omega) hM (fun a ha => by rw [g13]; exact hr.1 a ha) (fun a b ha hb hh => by rw [g13]; exact hr.2.1 a b ha hb hh) (by rw [g13]; exact q1') hr.2.2.1 (by rw [g1, if_neg (by omega)]; exact hr.2.2.2) (fun b hb => by rw [g1, if_pos ⟨rfl, hb⟩, g13])
        rw [e1', x1, x2, Option.bind_some, Option.bind_some, x3, Option.bind_some]
        have fc' : nfC σ s' := fun a b hab => (fs a b (by omega)).trans (fc a b hab)
        have fm' : nfM τ t' := fun a b hab => by rw [ft a b (by omega), g1, if_neg (by omega)]; exact fm a b hab
        have cv : (zI (v : Int) = zI (M : Int)) = (v = M) := by rw [zI_eq (by omega) (by omega) (by omega) (by omega)]; exact propext (by omega)
        show ∃ (fd : Int32) (s'' t'' : qMem), (if bI (decide (v = M)) = 0 then fX4_firstNext_l20 N c4 f A (-1) (zI i) (zI ((k + 1 : Nat) : Int)) s' else (if cpOK 0 0 24 24 24 = true then (fX4_firstNext_l20 N c4 f A (zI k) (zI i) (zI ((k + 1 : Nat) : Int)) (cp s' 75 74 0 0 24)) else none)) = _ ∧ (if zI (v : Int) = zI (M : Int) then fX12_next_b165 N c39 (fX12_next_l80 N c39 g) A (zI M) (zI i) (zI k) (zI k) t' else fX12_next_b165 N c39 (fX12_next_l80 N c39 g) A (zI M) (zI i) (-1) (zI k) t') = _ ∧ _
        unfold fX12_next_b165
        simp only [cv, if_bI, decide_eq_true_eq, nk]
        by_cases q2 : v = M
        · rw [if_pos q2, if_pos q2]
          have ok : (cpOK 0 0 24 24 24 = true) = True := cpOK_t (s0 := 0) (d0 := 0) (n := 24) (by omega) (by omega) (by omega) (by omega) (by omega) (by omega) (by omega) (by omega)
          simp only [ok, if_true]
          have gc : ∀ a b, gi (cp s' 75 74 0 0 24) a b = if a = 74 ∧ b < 24 then gi s' 75 b else gi s' a b := fun a b => by
            have e := gi_cp (σ := s') (ks := 75) (kd := 74) (s0 := 0) (d0 := 0) (n := 24) (by omega) (by omega) (by omega) (by omega) (by omega) (by omega) a b
            refine (show gi (cp s' 75 74 0 0 24) a b = _ from e).trans ?_
            by_cases q : a = 74 ∧ b < 24
            · rw [if_pos q, if_pos (by omega)]
              congr 1
              omega
            · rw [if_neg q, if_neg (by omega)]
          have nk1 : (zI k = -1) = False := by rw [show (-1 : Int32) = zI (-1) from rfl, zI_eq (by omega) (by omega) (by omega) (by omega)]; exact eq_false (by omega)
          obtain ⟨f, rfl⟩ : ∃ y, f = y + 1 := ⟨f - 1, by omega⟩
          obtain ⟨g, rfl⟩ : ∃ y, g = y + 1 := ⟨g - 1, by omega⟩
          refine ⟨zI k, cp s' 75 74 0 0 24, t', ?_, ?_, ⟨fun a ha => ?_, ro.2.1, ro.2.2⟩, ?_, fun a b hab => ?_, fm'⟩
          · show fX4_firstNext_s20 N c4 _ A (zI k) (zI i) (zI ((k + 1 : Nat) : Int)) _ = _
            unfold fX4_firstNext_s20 fX4_firstNext_b80 fX4_firstNext_b92
            simp only [nk1, if_false, ni]
            split <;> rfl
          · show fX12_next_s80 N c39 _ A (zI M) (zI i) (zI k) (zI ((k + 1 : Nat) : Int)) t' = _
            unfold fX12_next_s80 fX12_next_b171
            rw [if_pos (by decide)]
            simp only [nk1, if_false]
            split <;> rfl
          · rw [gc, if_pos ⟨rfl, ha⟩]; exact ro.1 a ha
          · rw [gc, if_neg (by omega), fs _ _ (by omega)]; exact hr.2.2.1
          · rw [gc, if_neg (by omega)]; exact fc' a b hab
        · rw [if_neg q2, if_neg q2]
          refine ih (k + 1) f g s' t' (by omega) (by omega) (by omega) ⟨fun a ha => ?_, fun a b ha hb hh => ?_, ?_, ?_⟩ fc' fm'
          · rw [fs _ _ (by omega), ft _ _ (by omega), g13]; exact hr.1 a ha
          · rw [ft _ _ (by omega), g13]; exact hr.2.1 a b ha hb hh
          · rw [fs _ _ (by omega)]; exact hr.2.2.1
          · rw [ft _ _ (by omega), g1, if_neg (by omega)]; exact hr.2.2.2
