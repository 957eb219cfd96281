/-! the reference splits a text -/
def ofW : List Nat := [0, 6, 11, 15, 18, 21, 25, 29, 35, 41, 47, 52, 57]
def sgn (T U : Nat → Int) (L : Nat) : Prop := ∀ j, j < L → -128 ≤ U j ∧ U j ≤ 127 ∧ T j = if U j < 0 then U j + 256 else U j
theorem tabW : ∀ w : Fin 12, ofW.getD (w.val + 1) 0 = ofW.getD w.val 0 + (wl.getD w.val []).length + 1 ∧ ofW.getD (w.val + 1) 0 ≤ 57 ∧ wordsL[ofW.getD w.val 0 + (wl.getD w.val []).length]? = some 32 ∧ ∀ c : Fin 5, c.val < (wl.getD w.val []).length → wordsL[ofW.getD w.val 0 + c.val]? = some ((wl.getD w.val []).getD c.val 0) ∧ (97 ≤ (wl.getD w.val []).getD c.val 0 ∧ (wl.getD w.val []).getD c.val 0 ≤ 122) := by decide +kernel
section SP
variable {T U : Nat → Int} {L : Nat} {τ : qMem}
theorem r_isSmall {N : Nat} {j : Nat} (hs : sgn T U L) (hj : j < L) : fX12_isSmall (zI (U j)) = some (bI (isLo (T j))) := by
  obtain ⟨a, b, c⟩ := hs j hj
  unfold fX12_isSmall fX12_isSmall_b16 isLo
  have d1 : (zI (U j) < 97) = (U j < 97) := by rw [show (97 : Int32) = zI 97 from rfl, zI_lt (by omega) (by omega) (by omega) (by omega)]
  have d2 : (122 < zI (U j)) = (122 < U j) := by rw [show (122 : Int32) = zI 122 from rfl, zI_lt (by omega) (by omega) (by omega) (by omega)]
  simp only [d1, d2]
  have e : (97 ≤ T j ∧ T j ≤ 122) ↔ (97 ≤ U j ∧ U j ≤ 122) := by rw [c]; split <;> omega
  rw [decide_eq_decide.mpr e]
  by_cases q : U j < 97
  · rw [if_pos q, decide_eq_false (by omega)]; rfl
  · rw [if_neg q]
    by_cases q2 : 122 < U j
    · rw [if_pos q2, decide_eq_false (by omega)]; rfl
    · rw [if_neg q2, decide_eq_true (by omega)]; rfl
theorem r_isDigit {j : Nat} (hs : sgn T U L) (hj : j < L) : fX12_isDigit (zI (U j)) = some (bI (isDg (T j))) := by
  obtain ⟨a, b, c⟩ := hs j hj
  unfold fX12_isDigit fX12_isDigit_b16 isDg
  have d1 : (zI (U j) < 48) = (U j < 48) := by rw [show (48 : Int32) = zI 48 from rfl, zI_lt (by omega) (by omega) (by omega) (by omega)]
  have d2 : (57 < zI (U j)) = (57 < U j) := by rw [show (57 : Int32) = zI 57 from rfl, zI_lt (by omega) (by omega) (by omega) (by omega)]
  simp only [d1, d2]
  have e : (48 ≤ T j ∧ T j ≤ 57) ↔ (48 ≤ U j ∧ U j ≤ 57) := by rw [c]; split <;> omega
  rw [decide_eq_decide.mpr e]
  by_cases q : U j < 48
  · rw [if_pos q, decide_eq_false (by omega)]; rfl
  · rw [if_neg q]
    by_cases q2 : 57 < U j
    · rw [if_pos q2, decide_eq_false (by omega)]; rfl
    · rw [if_neg q2, decide_eq_true (by omega)]; rfl
theorem kd_0 {p : Nat} (hp : p < L) : kd T L p = 0 ↔ isLo (T p) = true := by
  unfold kd
  rw [if_pos hp]
  by_cases q : isLo (T p) = true
  · rw [if_pos q]; exact ⟨fun _ => q, fun _ => rfl⟩
  · rw [if_neg q]
    refine ⟨fun z => ?_, fun z => absurd z q⟩
    split at z <;> omega
theorem kd_1 {p : Nat} (hp : p < L) : kd T L p = 1 ↔ isDg (T p) = true := by
  unfold kd
  rw [if_pos hp]
  by_cases q : isLo (T p) = true
  · rw [if_pos q]
    refine ⟨fun z => by omega, fun z => ?_⟩
    have a := of_decide_eq_true q
    have b := of_decide_eq_true z
    omega
  · rw [if_neg q]
    by_cases q2 : isDg (T p) = true
    · rw [if_pos q2]; exact ⟨fun _ => q2, fun _ => rfl⟩
    · rw [if_neg q2]; exact ⟨fun z => by omega, fun z => absurd z q2⟩
theorem r_w57 (N : Nat) {c5 : Int32 → Int32 → Int32 → Int32 → Option Int32} {p q o : Nat} {W : List Int} {v3 : Int32} (hL : L ≤ 400) (hs : sgn T U L) (h18 : ∀ j, j < L → gi τ 18 j = zI (U j)) (ho : o + W.length < 57) (hw : ∀ c, c < W.length → gi τ 17 (o + c) = zI (W.getD c 0) ∧ 97 ≤ W.getD c 0 ∧ W.getD c 0 ≤ 122) : ∀ (m n c : Nat) (b : Bool), c + m = W.length → m < n → (b = true → p + W.length ≤ L) →
    fX12_wordOf_l57 N c5 τ n (zI p) (zI q) v3 (zI o) (zI W.length) (bI b) (zI c) = fX12_wordOf_b104 N c5 (zI p) (zI q) v3 (zI o) (zI W.length) (bI (b && decide (slc T (p + c) m = W.drop c))) τ := by
  intro m
  induction m with
  | zero =>
    intro n c b hc hn hb
    obtain ⟨n, rfl⟩ : ∃ k, n = k + 1 := ⟨n - 1, by omega⟩
    show fX12_wordOf_s57 N c5 _ (zI p) (zI q) v3 (zI o) (zI W.length) (bI b) (zI c) τ = _
    unfold fX12_wordOf_s57
    have c1 : (zI W.length ≤ zI c) = True := by rw [zI_le (by omega) (by omega) (by omega) (by omega)]; exact eq_true (by omega)
    simp only [c1, if_true]
    rw [show W.drop c = [] from List.drop_eq_nil_of_le (by omega), show slc T (p + c) 0 = [] from rfl, decide_eq_true rfl, Bool.and_true]
  | succ m ih =>
    intro n c b hc hn hb
    obtain ⟨n, rfl⟩ : ∃ k, n = k + 1 := ⟨n - 1, by omega⟩
    show fX12_wordOf_s57 N c5 _ (zI p) (zI q) v3 (zI o) (zI W.length) (bI b) (zI c) τ = _
    unfold fX12_wordOf_s57
    have c1 : (zI W.length ≤ zI c) = False := by rw [zI_le (by omega) (by omega) (by omega) (by omega)]; exact eq_false (by omega)
    simp only [c1, if_false, if_bI]
    cases b with
    | false => rw [if_neg (c := false = true) (by decide), Bool.false_and]
    | true =>
      have hp := hb rfl
      obtain ⟨w1, w2, w3⟩ := hw c (by omega)
      obtain ⟨u1, u2, u3⟩ := hs (p + c) (by omega)
      have e1 : zI o + zI c = zI ((o + c : Nat) : Int) := by rw [zI_add]; rfl
      have e2 : zI p + zI c = zI ((p + c : Nat) : Int) := by rw [zI_add]; rfl
      have k1 : (ck (zI ((o + c : Nat) : Int)) 57 = true) = True := zI_ckT (by omega) (by omega) (by omega)
      have k2 : (ck (zI ((p + c : Nat) : Int)) 400 = true) = True := zI_ckT (by omega) (by omega) (by omega)
      have z1 : (zI ((o + c : Nat) : Int)).toNatClampNeg = o + c := by rw [zI_clamp (by omega) (by omega)]; omega
      have z2 : (zI ((p + c : Nat) : Int)).toNatClampNeg = p + c := by rw [zI_clamp (by omega) (by omega)]; omega
      have c2 : (zI (W.getD c 0) = zI (U (p + c))) = (T (p + c) = W.getD c 0) := by
        rw [zI_eq (by omega) (by omega) (by omega) (by omega), u3]
        exact propext (by split <;> omega)
      rw [if_pos rfl]
      simp only [e1, e2, k1, k2, if_true, z1, z2, w1, h18 (p + c) (by omega), c2]
      have nx : zI c + 1 = zI ((c + 1 : Nat) : Int) := by rw [show (1 : Int32) = zI 1 from rfl, zI_add]; rfl
      have ed : W.drop c = W.getD c 0 :: W.drop (c + 1) := by
        rw [List.drop_eq_getElem_cons (show c < W.length by omega), List.getD_eq_getElem?_getD, List.getElem?_eq_getElem (show c < W.length by omega)]
        rfl
      rw [slc_cons, ed, Bool.true_and]
      unfold fX12_wordOf_b96
      rw [nx]
      by_cases q2 : T (p + c) = W.getD c 0
      · rw [if_pos q2]
        have := ih n (c + 1) true (by omega) (by omega) hb
        rw [bI_t] at this
        rw [this, Bool.true_and]
        congr 2
        rw [show p + (c + 1) = p + c + 1 by omega, q2]
        exact decide_eq_decide.mpr ⟨fun z => by rw [z], fun z => (List.cons.inj z).2⟩
      · rw [if_neg q2]
        have := ih n (c + 1) false (by omega) (by omega) (fun z => by simp at z)
        rw [bI_f] at this
        rw [this, Bool.false_and, decide_eq_false (fun z => q2 (List.cons.inj z).1)]
theorem r_w18 (N : Nat) {c5 : Int32 → Int32 → Int32 → Int32 → Option Int32} {p q o : Nat} {W : List Int} {v3 : Int32} (hp : p ≤ q) (hq : q ≤ 400) (ho : o + W.length < 57) (hw : ∀ c, c < W.length → gi τ 17 (o + c) = zI (W.getD c 0) ∧ 97 ≤ W.getD c 0 ∧ W.getD c 0 ≤ 122) (h32 : gi τ 17 (o + W.length) = 32) : ∀ (m n c : Nat), c + m = W.length → m < n →
    fX12_wordOf_l18 N c5 τ n (zI p) (zI q) v3 (zI o) (zI c) = fX12_wordOf_b52 N c5 (zI p) (zI q) v3 (zI o) (zI W.length) (bI (decide (W.length = q - p))) τ := by
  intro m
  induction m with
  | zero =>
    intro n c hc hn
    obtain ⟨n, rfl⟩ : ∃ k, n = k + 1 := ⟨n - 1, by omega⟩
    show fX12_wordOf_s18 N c5 _ (zI p) (zI q) v3 (zI o) (zI c) τ = _
    have ec : c = W.length := by omega
    subst ec
    unfold fX12_wordOf_s18
    have e1 : zI o + zI W.length = zI ((o + W.length : Nat) : Int) := by rw [zI_add]; rfl
    have k1 : (ck (zI ((o + W.length : Nat) : Int)) 57 = true) = True := zI_ckT (by omega) (by omega) (by omega)
    have z1 : (zI ((o + W.length : Nat) : Int)).toNatClampNeg = o + W.length := by rw [zI_clamp (by omega) (by omega)]; omega
    have c2 : (zI W.length = zI q - zI p) = (W.length = q - p) := by rw [zI_sub, zI_eq (by omega) (by omega) (by omega) (by omega)]; exact propext (by omega)
    simp only [e1, k1, z1, if_true, h32, c2]
    by_cases q2 : W.length = q - p
    · rw [if_pos q2, decide_eq_true q2]; rfl
    · rw [if_neg q2, decide_eq_false q2]; rfl
  | succ m ih =>
    intro n c hc hn
    obtain ⟨n, rfl⟩ : ∃ k, n = k + 1 := ⟨n - 1, by omega⟩
    show fX12_wordOf_s18 N c5 _ (zI p) (zI q) v3 (zI o) (zI c) τ = _
    unfold fX12_wordOf_s18
    obtain ⟨w1, w2, w3⟩ := hw c (by omega)
    have e1 : zI o + zI c = zI ((o + c : Nat) : Int) := by rw [zI_add]; rfl
    have k1 : (ck (zI ((o + c : Nat) : Int)) 57 = true) = True := zI_ckT (by omega) (by omega) (by omega)
    have z1 : (zI ((o + c : Nat) : Int)).toNatClampNeg = o + c := by rw [zI_clamp (by omega) (by omega)]; omega
    have c2 : (zI (W.getD c 0) = 32) = False := by rw [show (32 : Int32) = zI 32 from rfl, zI_eq (by omega) (by omega) (by omega) (by omega)]; exact eq_false (by omega)
    simp only [e1, k1, z1, if_true, w1, c2, if_false]
    rw [show zI c + 1 = zI ((c + 1 : Nat) : Int) by rw [show (1 : Int32) = zI 1 from rfl, zI_add]; rfl]
    exact ih n (c + 1) (by omega) (by omega)
theorem r_wordOf {N : Nat} (hN : 200000 ≤ N) {p q : Nat} (hL : L ≤ 400) (hs : sgn T U L) (h18 : ∀ j, j < L → gi τ 18 j = zI (U j)) (h17 : ∀ j x, wordsL[j]? = some x → gi τ 17 j = zI x) (hp : p ≤ q) (hq : q ≤ L) : fX12_wordOf N (zI p) (zI q) τ = some (zI (wcode (slc T p (q - p)))) := by
  have key : ∀ (m w n : Nat), w + m = 12 → m < n → (∀ v, v < w → slc T p (q - p) ≠ wl.getD v []) → fX12_wordOf_l5 N τ n (zI p) (zI q) (zI ((w + 1 : Nat) : Int)) (zI (ofW.getD w 0 : Nat)) = some (zI (wcode (slc T p (q - p)))) := by
    intro m
    induction m with
    | zero =>
      intro w n hw hn hv
      obtain ⟨n, rfl⟩ : ∃ k, n = k + 1 := ⟨n - 1, by omega⟩
      have : w = 12 := by omega
      subst this
      show fX12_wordOf_s5 N _ (zI p) (zI q) _ _ τ = _
      unfold fX12_wordOf_s5
      rw [show zI ((ofW.getD 12 0 : Nat) : Int) = 57 from rfl, if_pos (by decide)]
      have r := wc_rng (slc T p (q - p))
      have : wcode (slc T p (q - p)) = 0 := by
        by_cases z : wcode (slc T p (q - p)) = 0
        · exact z
        · exfalso
          have e : wcode (slc T p (q - p)) = (((wcode (slc T p (q - p))).toNat - 1 : Nat) : Int) + 1 := by omega
          exact hv _ (by omega) ((wc_iff (by omega)).mp e)
      rw [this]
      rfl
    | succ m ih =>
      intro w n hw hn hv
      obtain ⟨n, rfl⟩ : ∃ k, n = k + 1 := ⟨n - 1, by omega⟩
      show fX12_wordOf_s5 N _ (zI p) (zI q) _ _ τ = _
      unfold fX12_wordOf_s5
      obtain ⟨t1, t2, t3, t4⟩ := tabW ⟨w, by omega⟩
      simp only at t1 t2 t3 t4
      have wi := fun s => wc_iff (s := s) (w := w) (by omega)
      have wlen := (wl_rng ⟨w, by omega⟩).2.1
      simp only at wlen
      have c0 : (57 ≤ zI ((ofW.getD w 0 : Nat) : Int)) = False := by rw [show (57 : Int32) = zI 57 from rfl, zI_le (by omega) (by omega) (by omega) (by omega)]; exact eq_false (by omega)
      simp only [c0, if_false]
      have hvw : slc T p (q - p) ≠ wl.getD w [] → ∀ v, v < w + 1 → slc T p (q - p) ≠ wl.getD v [] := fun z v hv2 => by
        by_cases e : v = w
        · rw [e]; exact z
        · exact hv v (by omega)
      have ihw := ih (w + 1) n (by omega) (by omega)
      rw [t1] at ihw
      generalize wl.getD w [] = W at *
      generalize ofW.getD w 0 = o at *
      have hW : ∀ c, c < W.length → gi τ 17 (o + c) = zI (W.getD c 0) ∧ 97 ≤ W.getD c 0 ∧ W.getD c 0 ≤ 122 := fun c hc => by
        obtain ⟨a, b⟩ := t4 ⟨c, by omega⟩ hc
        exact ⟨h17 _ _ a, b.1, b.2⟩
      rw [show zI ((w + 1 : Nat) : Int) = zI ((w + 1 : Nat) : Int) from rfl]
      have e18 : fX12_wordOf_l18 N (fX12_wordOf_l5 N τ n) τ N (zI p) (zI q) (zI ((w + 1 : Nat) : Int)) (zI o) 0 = _ := r_w18 N (c5 := fX12_wordOf_l5 N τ n) (v3 := zI ((w + 1 : Nat) : Int)) hp (by omega) (by omega) hW (h17 _ _ t3) W.length N 0 (by omega) (by omega)
      rw [e18]
      unfold fX12_wordOf_b52
      have e57 : fX12_wordOf_l57 N (fX12_wordOf_l5 N τ n) τ N (zI p) (zI q) (zI ((w + 1 : Nat) : Int)) (zI o) (zI W.length) (bI (decide (W.length = q - p))) 0 = _ := r_w57 N (c5 := fX12_wordOf_l5 N τ n) (q := q) (v3 := zI ((w + 1 : Nat) : Int)) hL hs h18 (by omega) hW W.length N 0 (decide (W.length = q - p)) (by omega) (by omega) (fun z => by have := of_decide_eq_true z; omega)
      rw [e57]
      unfold fX12_wordOf_b104
      rw [if_bI]
      have em : (decide (W.length = q - p) && decide (slc T (p + 0) W.length = W.drop 0)) = decide (slc T p (q - p) = W) := by
        rw [Nat.add_zero, List.drop_zero]
        by_cases z : W.length = q - p
        · rw [decide_eq_true z, Bool.true_and, z]
        · rw [decide_eq_false z, Bool.false_and, decide_eq_false]
          intro y
          have := congrArg List.length y
          rw [slc_len] at this
          omega
      rw [em]
      by_cases z : slc T p (q - p) = W
      · rw [decide_eq_true z, if_pos rfl, (wi _).mpr z]
        rfl
      · rw [decide_eq_false z, if_neg (c := false = true) (by decide)]
        have := ihw (hvw z)
        rw [← this]
        rw [show (1 : Int32) = zI 1 from rfl, zI_add, zI_add, zI_add]
        all_goals congr 1
  have := key 12 0 N (by omega) (by omega) (fun v hv => by omega)
  unfold fX12_wordOf
  exact this
theorem r_s43 (N : Nat) {c7 : Int32 → Int32 → qMem → Option qMem} {v2 v3 : Int32} (hL : L ≤ 400) (hs : sgn T U L) (h18 : ∀ j, j < L → gi τ 18 j = zI (U j)) : ∀ (m n p : Nat), L ≤ p + m → p ≤ L → m < n → fX12_splits_l43 N c7 n (zI L) v2 v3 (zI p) τ = fX12_splits_b68 N c7 (zI L) v2 v3 (zI (rnN T L 0 (L + 1) p)) τ := by
  intro m
  induction m with
  | zero =>
    intro n p a1 a2 a3
    obtain ⟨n, rfl⟩ : ∃ k, n = k + 1 := ⟨n - 1, by omega⟩
    show fX12_splits_s43 N c7 _ (zI L) v2 v3 (zI p) τ = _
    unfold fX12_splits_s43
    have c1 : (zI L ≤ zI p) = True := by rw [zI_le (by omega) (by omega) (by omega) (by omega)]; exact eq_true (by omega)
    have k3 : kd T L p = 3 := by unfold kd; rw [if_neg (by omega)]
    simp only [c1, if_true]
    rw [rn_rec T L (by omega), k3, if_neg (by omega)]
  | succ m ih =>
    intro n p a1 a2 a3
    obtain ⟨n, rfl⟩ : ∃ k, n = k + 1 := ⟨n - 1, by omega⟩
    show fX12_splits_s43 N c7 _ (zI L) v2 v3 (zI p) τ = _
    unfold fX12_splits_s43
    have c1 : (zI L ≤ zI p) = (L ≤ p) := by rw [zI_le (by omega) (by omega) (by omega) (by omega)]; exact propext (by omega)
    simp only [c1]
    rw [rn_rec T L (by omega)]
    by_cases q : L ≤ p
    · have k3 : kd T L p = 3 := by unfold kd; rw [if_neg (by omega)]
      rw [if_pos q, k3, if_neg (by omega)]
    · have k0 : (ck (zI p) 400 = true) = True := zI_ckT (by omega) (by omega) (by omega)
      have z0 : (zI p).toNatClampNeg = p := by rw [zI_clamp (by omega) (by omega)]; omega
      rw [if_neg q]
      simp only [k0, if_true, z0, h18 p (by omega), r_isSmall (N := N) hs (show p < L by omega), Option.bind_some, if_bI]
      by_cases q2 : isLo (T p) = true
      · rw [if_pos q2, if_pos ((kd_0 (by omega)).mpr q2), show zI p + 1 = zI ((p + 1 : Nat) : Int) by rw [show (1 : Int32) = zI 1 from rfl, zI_add]; rfl]
        exact ih n (p + 1) (by omega) (by omega) (by omega)
      · rw [if_neg q2, if_neg (fun z => q2 ((kd_0 (by omega)).mp z))]
theorem r_s75 (N : Nat) {c7 : Int32 → Int32 → qMem → Option qMem} {v2 v3 : Int32} (hL : L ≤ 400) (hs : sgn T U L) (h18 : ∀ j, j < L → gi τ 18 j = zI (U j)) : ∀ (m n p : Nat), L ≤ p + m → p ≤ L → m < n → fX12_splits_l75 N c7 n (zI L) v2 v3 (zI p) τ = fX12_splits_b100 N c7 (zI L) v2 v3 (zI (rnN T L 1 (L + 1) p)) τ := by
  intro m
  induction m with
  | zero =>
    intro n p a1 a2 a3
    obtain ⟨n, rfl⟩ : ∃ k, n = k + 1 := ⟨n - 1, by omega⟩
    show fX12_splits_s75 N c7 _ (zI L) v2 v3 (zI p) τ = _
    unfold fX12_splits_s75
    have c1 : (zI L ≤ zI p) = True := by rw [zI_le (by omega) (by omega) (by omega) (by omega)]; exact eq_true (by omega)
    have k3 : kd T L p = 3 := by unfold kd; rw [if_neg (by omega)]
    simp only [c1, if_true]
    rw [rn_rec T L (by omega), k3, if_neg (by omega)]
  | succ m ih =>
    intro n p a1 a2 a3
    obtain ⟨n, rfl⟩ : ∃ k, n = k + 1 := ⟨n - 1, by omega⟩
    show fX12_splits_s75 N c7 _ (zI L) v2 v3 (zI p) τ = _
    unfold fX12_splits_s75
    have c1 : (zI L ≤ zI p) = (L ≤ p) := by rw [zI_le (by omega) (by omega) (by omega) (by omega)]; exact propext (by omega)
    simp only [c1]
    rw [rn_rec T L (by omega)]
    by_cases q : L ≤ p
    · have k3 : kd T L p = 3 := by unfold kd; rw [if_neg (by omega)]
      rw [if_pos q, k3, if_neg (by omega)]
    · have k0 : (ck (zI p) 400 = true) = True := zI_ckT (by omega) (by omega) (by omega)
      have z0 : (zI p).toNatClampNeg = p := by rw [zI_clamp (by omega) (by omega)]; omega
      rw [if_neg q]
      simp only [k0, if_true, z0, h18 p (by omega), r_isDigit hs (show p < L by omega), Option.bind_some, if_bI]
      by_cases q2 : isDg (T p) = true
      · rw [if_pos q2, if_pos ((kd_1 (by omega)).mpr q2), show zI p + 1 = zI ((p + 1 : Nat) : Int) by rw [show (1 : Int32) = zI 1 from rfl, zI_add]; rfl]
        exact ih n (p + 1) (by omega) (by omega) (by omega)
      · rw [if_neg q2, if_neg (fun z => q2 ((kd_1 (by omega)).mp z))]
end SP
