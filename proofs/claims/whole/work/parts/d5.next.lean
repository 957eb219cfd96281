/-! next -/
theorem r_fixes {N : Nat} {t : qMem} {i k : Nat} (hN : 200000 ≤ N) (hi : i < 24) : ∃ t', fX12_fixes N (zI i) (zI k) t = some t' ∧ ∀ a b, gi t' a b = if a = 10 ∧ b = i then (1 : Int32) <<< (zI k &&& 31) else if a = 10 ∧ b < 24 then gi t 10 b &&& (((1 : Int32) <<< (zI k &&& 31)) ^^^ (-1)) else gi t a b := by
  have ki : (ck (zI i) 24 = true) = True := zI_ckT (by omega) (by omega) (by omega)
  have zi : (zI i).toNatClampNeg = i := by rw [zI_clamp (by omega) (by omega)]; omega
  have loop : ∀ (d x f : Nat) (s : qMem), x + d = 24 → d < f → (∀ a b, gi s a b = if a = 10 ∧ b < x then gi t 10 b &&& (((1 : Int32) <<< (zI k &&& 31)) ^^^ (-1)) else gi t a b) → ∃ t', fX12_fixes_l2 N f (zI i) (zI k) (zI x) s = some t' ∧ ∀ a b, gi t' a b = if a = 10 ∧ b = i then (1 : Int32) <<< (zI k &&& 31) else if a = 10 ∧ b < 24 then gi t 10 b &&& (((1 : Int32) <<< (zI k &&& 31)) ^^^ (-1)) else gi t a b := by
    intro d
    induction d with
    | zero =>
      intro x f s hx hf hs
      obtain ⟨f, rfl⟩ : ∃ y, f = y + 1 := ⟨f - 1, by omega⟩
      have : x = 24 := by omega
      subst this
      show ∃ t', fX12_fixes_s2 N _ (zI i) (zI k) (zI (24 : Nat)) s = _ ∧ _
      unfold fX12_fixes_s2
      rw [if_pos (by decide)]
      simp only [ki, zi, if_true, nmM]
      exact ⟨_, rfl, fun a b => by rw [gi_si, hs]⟩
    | succ d ih =>
      intro x f s hx hf hs
      obtain ⟨f, rfl⟩ : ∃ y, f = y + 1 := ⟨f - 1, by omega⟩
      show ∃ t', fX12_fixes_s2 N (fX12_fixes_l2 N f) (zI i) (zI k) (zI x) s = _ ∧ _
      unfold fX12_fixes_s2
      have c24 : (24 ≤ zI x) = False := by rw [show (24 : Int32) = zI 24 from rfl, zI_le (by omega) (by omega) (by omega) (by omega)]; exact eq_false (by omega)
      have kx : (ck (zI x) 24 = true) = True := zI_ckT (by omega) (by omega) (by omega)
      have zx : (zI x).toNatClampNeg = x := by rw [zI_clamp (by omega) (by omega)]; omega
      have gx : gi s 10 x = gi t 10 x := by rw [hs, if_neg (by omega)]
      simp only [c24, if_false, kx, zx, if_true, nmM]
      rw [show zI x + 1 = zI ((x + 1 : Nat) : Int) by rw [show (1 : Int32) = zI 1 from rfl, zI_add]; rfl]
      refine ih (x + 1) f _ (by omega) (by omega) (fun a b => ?_)
      rw [gi_si, gx]
      by_cases q : a = 10 ∧ b = x
      · rw [if_pos q, if_pos (by omega), q.2]
      · rw [if_neg q, hs]
        by_cases q2 : a = 10 ∧ b < x
        · rw [if_pos q2, if_pos (by omega)]
        · rw [if_neg q2, if_neg (by omega)]
  obtain ⟨t', e1, e2⟩ := loop 24 0 N t (by omega) (by omega) (fun a b => by rw [if_neg (by omega)])
  exact ⟨t', e1, e2⟩
theorem e_canBe {N : Nat} {s : qMem} {i k : Nat} (hN : 200000 ≤ N) (hi : i < 24) : ∃ s', fX4_canBe N (zI i) (zI k) s = ((fX4_join N 75 s').bind fun y2 => (if y2.1 = (gi y2.2 73 6) then (some (1, y2.2)) else (some (0, y2.2)))) ∧ ∀ a b, gi s' a b = if a = 75 ∧ b = i then (1 : Int32) <<< (zI k &&& 31) else if a = 75 ∧ b < 24 then gi s 74 b &&& (((1 : Int32) <<< (zI k &&& 31)) ^^^ (-1)) else gi s a b := by
  have ki : (ck (zI i) 24 = true) = True := zI_ckT (by omega) (by omega) (by omega)
  have zi : (zI i).toNatClampNeg = i := by rw [zI_clamp (by omega) (by omega)]; omega
  have loop : ∀ (d x f : Nat) (u : qMem), x + d = 24 → d < f → (∀ a b, gi u a b = if a = 75 ∧ b < x then gi s 74 b &&& (((1 : Int32) <<< (zI k &&& 31)) ^^^ (-1)) else gi s a b) → ∃ s', fX4_canBe_l2 N f (zI i) (zI k) (zI x) u = ((fX4_join N 75 s').bind fun y2 => (if y2.1 = (gi y2.2 73 6) then (some (1, y2.2)) else (some (0, y2.2)))) ∧ ∀ a b, gi s' a b = if a = 75 ∧ b = i then (1 : Int32) <<< (zI k &&& 31) else if a = 75 ∧ b < 24 then gi s 74 b &&& (((1 : Int32) <<< (zI k &&& 31)) ^^^ (-1)) else gi s a b := by
    intro d
    induction d with
    | zero =>
      intro x f u hx hf hs
      obtain ⟨f, rfl⟩ : ∃ y, f = y + 1 := ⟨f - 1, by omega⟩
      have : x = 24 := by omega
      subst this
      show ∃ s', fX4_canBe_s2 N _ (zI i) (zI k) (zI (24 : Nat)) u = _ ∧ _
      unfold fX4_canBe_s2
      rw [if_pos (by decide)]
      simp only [ki, zi, if_true, nmM]
      exact ⟨_, rfl, fun a b => by rw [gi_si, hs]⟩
    | succ d ih =>
      intro x f u hx hf hs
      obtain ⟨f, rfl⟩ : ∃ y, f = y + 1 := ⟨f - 1, by omega⟩
      show ∃ s', fX4_canBe_s2 N (fX4_canBe_l2 N f) (zI i) (zI k) (zI x) u = _ ∧ _
      unfold fX4_canBe_s2
      have c24 : (24 ≤ zI x) = False := by rw [show (24 : Int32) = zI 24 from rfl, zI_le (by omega) (by omega) (by omega) (by omega)]; exact eq_false (by omega)
      have kx : (ck (zI x) 24 = true) = True := zI_ckT (by omega) (by omega) (by omega)
      have zx : (zI x).toNatClampNeg = x := by rw [zI_clamp (by omega) (by omega)]; omega
      have gx : gi u 74 x = gi s 74 x := by rw [hs, if_neg (by omega)]
      simp only [c24, if_false, kx, zx, if_true, nmM]
      rw [show zI x + 1 = zI ((x + 1 : Nat) : Int) by rw [show (1 : Int32) = zI 1 from rfl, zI_add]; rfl]
      refine ih (x + 1) f _ (by omega) (by omega) (fun a b => ?_)
      rw [gi_si, gx]
      by_cases q : a = 75 ∧ b = x
      · rw [if_pos q, if_pos (by omega), q.2]
      · rw [if_neg q, hs]
        by_cases q2 : a = 75 ∧ b < x
        · rw [if_pos q2, if_pos (by omega)]
        · rw [if_neg q2, if_neg (by omega)]
  obtain ⟨s', e1, e2⟩ := loop 24 0 N s (by omega) (by omega) (fun a b => by rw [if_neg (by omega)])
  exact ⟨s', e1, e2⟩
/-- the rows with k next of i are as much within -/
theorem fix_rows {H : Nat} {s t s1 t1 : qMem} {i k C : Nat} (hi : i < 24) (hk : k < 24) (hC : ∀ a, a < 24 → gi s 74 a = gi t C a) (hb : ∀ a b, a < 24 → b < 24 → (H ≤ b ∨ H ≤ a) → bt (gi t C a) b = false) (hik : bt (gi t C i) k = true) (g1 : ∀ b, b < 24 → gi s1 75 b = if b = i then (1 : Int32) <<< (zI k &&& 31) else gi s 74 b &&& (((1 : Int32) <<< (zI k &&& 31)) ^^^ (-1))) (g2 : ∀ b, b < 24 → gi t1 10 b = if b = i then (1 : Int32) <<< (zI k &&& 31) else gi t C b &&& (((1 : Int32) <<< (zI k &&& 31)) ^^^ (-1))) (g3 : gi t1 2 300 = zI H) : roR 75 H s1 t1 := by
  have hin : ¬ (H ≤ k ∨ H ≤ i) := fun z => by rw [hb i k hi hk z] at hik; simp at hik
  refine ⟨fun a ha => ?_, fun a b ha hb' hh => ?_, g3⟩
  · rw [g1 a ha, g2 a ha, hC a ha]
  · rw [g2 a ha]
    by_cases e : a = i
    · rw [if_pos e]
      have o : bt ((1 : Int32) <<< (zI k &&& 31)) b = decide (b = k) := by rw [show zI (k : Int) = nI k from rfl, wd_one (by omega), bt_wd _ (by omega)]
      rw [o]
      exact decide_eq_false (by omega)
    · rw [if_neg e, b_and, hb a b ha hb' hh, Bool.false_and]
/-- one trial, by both -/
theorem sim_try {N H M i k : Nat} {s t : qMem} (hN : 200000 ≤ N) (hH : H ≤ 24) (hi : i < 24) (hk : k < 24) (hM : M ≤ 24) (hC : ∀ a, a < 24 → gi s 74 a = gi t 13 a) (hb : ∀ a b, a < 24 → b < 24 → (H ≤ b ∨ H ≤ a) → bt (gi t 13 a) b = false) (hik : bt (gi t 13 i) k = true) (h6 : gi s 73 6 = zI M) (h3 : gi t 2 300 = zI H) (hcp : ∀ b, b < 24 → gi t 10 b = gi t 13 b) :
    ∃ (v : Nat) (s' t1 t' : qMem), v ≤ 24 ∧ fX4_canBe N (zI i) (zI k) s = some (bI (decide (v = M)), s') ∧ fX12_fixes N (zI i) (zI k) t = some t1 ∧ fX12_joins N t1 = some (zI v, t') ∧ roR 75 H s' t' ∧ (∀ a b, ¬ ((a = 73 ∧ b = 4) ∨ a = 75 ∨ a = 76) → gi s' a b = gi s a b) ∧ (∀ a b, ¬ ((a = 0 ∧ b = 20) ∨ (10 ≤ a ∧ a ≤ 12)) → gi t' a b = gi t a b) := by
  obtain ⟨s1, e1, g1⟩ := e_canBe (N := N) (s := s) (k := k) hN hi
  obtain ⟨t1, e2, g2⟩ := r_fixes (N := N) (t := t) (k := k) hN hi
  have ro : roR 75 H s1 t1 := by
    refine fix_rows (C := 13) hi hk hC hb hik (fun b hb' => ?_) (fun b hb' => ?_) ?_
    · rw [g1]
      by_cases e : b = i
      · rw [if_pos ⟨rfl, e⟩, if_pos e]
      · rw [if_neg (by omega), if_neg e, if_pos ⟨rfl, hb'⟩]
    · rw [g2]
      by_cases e : b = i
      · rw [if_pos ⟨rfl, e⟩, if_pos e]
      · rw [if_neg (by omega), if_neg e, if_pos ⟨rfl, hb'⟩, hcp b hb']
    · rw [g2, if_neg (by omega), if_neg (by omega)]; exact h3
  obtain ⟨v, s', t', v1, v2, v3, v4, v5⟩ := sim_join hN (Or.inr rfl) hH ro
  have fs : ∀ a b, ¬ ((a = 73 ∧ b = 4) ∨ a = 75 ∨ a = 76) → gi s' a b = gi s a b := fun a b hab => by rw [v4 _ _ (by omega), g1, if_neg (by omega), if_neg (by omega)]
  have ft : ∀ a b, ¬ ((a = 0 ∧ b = 20) ∨ (10 ≤ a ∧ a ≤ 12)) → gi t' a b = gi t a b := fun a b hab => by rw [v5 _ _ (by omega), g2, if_neg (by omega), if_neg (by omega)]
  refine ⟨v, s', t1, t', v1, ?_, e2, v3, ⟨fun a ha => ?_, fun a b ha hb' hh => ?_, ?_⟩, fs, ft⟩
  · rw [e1, v2, Option.bind_some]
    have g6 : gi s' 73 6 = zI M := (fs _ _ (by omega)).trans h6
    show (if zI (v : Int) = gi s' 73 6 then some ((1 : Int32), s') else some (0, s')) = _
    have c : (zI (v : Int) = gi s' 73 6) = (v = M) := by rw [g6, zI_eq (by omega) (by omega) (by omega) (by omega)]; exact propext (by omega)
    simp only [c]
    by_cases q : v = M
    · rw [if_pos q, decide_eq_true q]; rfl
    · rw [if_neg q, decide_eq_false q]; rfl
  · rw [v4 _ _ (by omega), v5 _ _ (by omega)]; exact ro.1 a ha
  · rw [v5 _ _ (by omega)]; exact ro.2.1 a b ha hb' hh
  · rw [v5 _ _ (by omega)]; exact ro.2.2
