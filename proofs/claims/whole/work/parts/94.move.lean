/-! the class reads: a token -/
theorem strB_wl : strB = wl.map (fun w => w.map zI) := by decide +kernel
theorem sk_rec (T : Nat → Int) (L p : Nat) : sk T L p = if p < L ∧ T p = 32 then sk T L (p + 1) else p := by
  by_cases c : p < L ∧ T p = 32
  · rw [if_pos c]
    obtain ⟨a, b, d⟩ := sk_ok T L (p + 1)
    refine sk_uniq (by omega) (fun r h1 h2 => ?_) d
    by_cases e : r = p
    · rw [e]; exact c
    · exact b r (by omega) h2
  · rw [if_neg c]
    exact sk_uniq (Nat.le_refl _) (fun r h1 h2 => by omega) c
def txt (T : Nat → Int) (L : Nat) (σ : qMem) : Prop := gi σ 77 1 = 86 ∧ gi σ 77 2 = zI L ∧ ∀ j, j < L → gi σ 86 j = zI (T j)
def okT (T : Nat → Int) (L : Nat) : Prop := L ≤ 400 ∧ ∀ j, j < L → 0 ≤ T j ∧ T j ≤ 255
section RD
variable {T : Nat → Int} {L : Nat} {σ : qMem}
theorem e_kindAt (hT : okT T L) (h : txt T L σ) {p : Nat} (hp : p ≤ 400) : fX6_kindAt (zI p) σ = some (zI (kd T L p)) := by
  obtain ⟨h1, h2, h3⟩ := h
  have c86 : ((86 : Int32).toNatClampNeg = 86) = True := eq_true (by decide)
  unfold fX6_kindAt fX6_kindAt_b34 fX6_kindAt_b60 kd
  have hL := hT.1
  have c1 : (zI p < zI L) = (p < L) := by rw [zI_lt (by omega) (by omega) (by omega) (by omega)]; exact propext (by omega)
  simp only [h1, h2, c86, if_true, c1]
  by_cases q : p < L
  · have r := hT.2 p q
    have k0 : (ck (zI p) 400 = true) = True := zI_ckT (by omega) (by omega) (by omega)
    have z0 : (zI p).toNatClampNeg = p := by rw [zI_clamp (by omega) (by omega)]; omega
    simp only [k0, z0, if_true, h3 p q, if_pos q]
    have a1 : (zI (T p) < 97) = (T p < 97) := by rw [show (97 : Int32) = zI 97 from rfl, zI_lt (by omega) (by omega) (by omega) (by omega)]
    have a2 : (122 < zI (T p)) = (122 < T p) := by rw [show (122 : Int32) = zI 122 from rfl, zI_lt (by omega) (by omega) (by omega) (by omega)]
    have a3 : (zI (T p) < 48) = (T p < 48) := by rw [show (48 : Int32) = zI 48 from rfl, zI_lt (by omega) (by omega) (by omega) (by omega)]
    have a4 : (57 < zI (T p)) = (57 < T p) := by rw [show (57 : Int32) = zI 57 from rfl, zI_lt (by omega) (by omega) (by omega) (by omega)]
    simp only [a1, a2, a3, a4]
    unfold isLo isDg
    by_cases q1 : T p < 97
    · rw [if_pos q1, decide_eq_false (by omega), if_neg (c := false = true) (by decide)]
      by_cases q2 : T p < 48
      · rw [if_pos q2, decide_eq_false (by omega), if_neg (c := false = true) (by decide)]; rfl
      · rw [if_neg q2]
        by_cases q3 : 57 < T p
        · rw [if_pos q3, decide_eq_false (by omega), if_neg (c := false = true) (by decide)]; rfl
        · rw [if_neg q3, decide_eq_true (by omega), if_pos rfl]; rfl
    · rw [if_neg q1]
      by_cases q4 : 122 < T p
      · rw [if_pos q4, if_neg (by omega), if_pos (by omega), decide_eq_false (by omega), if_neg (c := false = true) (by decide), decide_eq_false (by omega), if_neg (c := false = true) (by decide)]; rfl
      · rw [if_neg q4, decide_eq_true (by omega), if_pos rfl]; rfl
  · rw [if_neg q, if_neg q]; rfl
def mvS (T : Nat → Int) (L : Nat) (σ : qMem) (p : Nat) : qMem := si (si (si σ 77 4 (zI (sk T L p))) 77 3 (zI (kd T L (sk T L p)))) 77 5 (zI (te T L (sk T L p)))
theorem txt_fr {σ' : qMem} (h : txt T L σ) (h1 : gi σ' 77 1 = gi σ 77 1) (h2 : gi σ' 77 2 = gi σ 77 2) (h3 : ∀ j, gi σ' 86 j = gi σ 86 j) : txt T L σ' := ⟨h1.trans h.1, h2.trans h.2.1, fun j hj => (h3 j).trans (h.2.2 j hj)⟩
theorem e_move5 (N : Nat) (hT : okT T L) (h : txt T L σ) : ∀ (m n p : Nat), L ≤ p + m → p ≤ L → m < n → fX6_move_l5 N n (zI p) σ = fX6_move_b30 N (zI (sk T L p)) σ := by
  obtain ⟨h1, h2, h3⟩ := h
  have c86 : ((86 : Int32).toNatClampNeg = 86) = True := eq_true (by decide)
  have hL := hT.1
  intro m
  induction m with
  | zero =>
    intro n p a1 a2 a3
    obtain ⟨n, rfl⟩ : ∃ k, n = k + 1 := ⟨n - 1, by omega⟩
    show fX6_move_s5 N _ (zI p) σ = _
    unfold fX6_move_s5
    have c1 : (zI L ≤ zI p) = True := by rw [zI_le (by omega) (by omega) (by omega) (by omega)]; exact eq_true (by omega)
    simp only [h2, c1, if_true]
    rw [sk_rec, if_neg (by omega)]
  | succ m ih =>
    intro n p a1 a2 a3
    obtain ⟨n, rfl⟩ : ∃ k, n = k + 1 := ⟨n - 1, by omega⟩
    show fX6_move_s5 N _ (zI p) σ = _
    unfold fX6_move_s5
    have c1 : (zI L ≤ zI p) = (L ≤ p) := by rw [zI_le (by omega) (by omega) (by omega) (by omega)]; exact propext (by omega)
    simp only [h1, h2, c1, c86, if_true]
    by_cases q : L ≤ p
    · rw [if_pos q, sk_rec, if_neg (by omega)]
    · have r := hT.2 p (by omega)
      have k0 : (ck (zI p) 400 = true) = True := zI_ckT (by omega) (by omega) (by omega)
      have z0 : (zI p).toNatClampNeg = p := by rw [zI_clamp (by omega) (by omega)]; omega
      have a4 : (zI (T p) = 32) = (T p = 32) := by rw [show (32 : Int32) = zI 32 from rfl, zI_eq (by omega) (by omega) (by omega) (by omega)]
      rw [if_neg q]
      simp only [k0, z0, if_true, h3 p (by omega), a4]
      rw [sk_rec]
      by_cases q2 : T p = 32
      · rw [if_pos q2, if_pos ⟨by omega, q2⟩, show zI p + 1 = zI ((p + 1 : Nat) : Int) by rw [show (1 : Int32) = zI 1 from rfl, zI_add]; rfl]
        exact ih n (p + 1) (by omega) (by omega) (by omega)
      · rw [if_neg q2, if_neg (fun z => q2 z.2)]
theorem rn_rec (T : Nat → Int) (L : Nat) {k : Nat} (hk : k < 3) (p : Nat) : rnN T L k (L + 1) p = if kd T L p = k then rnN T L k (L + 1) (p + 1) else p := by
  obtain ⟨a, b, c⟩ := rnN_ok T L k hk (L + 1) p (by omega)
  obtain ⟨a', b', c'⟩ := rnN_ok T L k hk (L + 1) (p + 1) (by omega)
  generalize rnN T L k (L + 1) p = x at a b c
  generalize rnN T L k (L + 1) (p + 1) = y at a' b' c'
  by_cases q : kd T L p = k
  · rw [if_pos q]
    rcases (by omega : x < y ∨ x = y ∨ y < x) with g | g | g
    · by_cases e : x = p
      · exact absurd (e ▸ q) c
      · exact absurd (b' x (by omega) g) c
    · exact g
    · exact absurd (b y (by omega) g) c'
  · rw [if_neg q]
    by_cases e : x = p
    · exact e
    · exact absurd (b p (Nat.le_refl _) (by omega)) q
theorem e_move55 (N : Nat) (hT : okT T L) (h : txt T L σ) {k : Nat} (hk : k < 2) (h7 : gi σ 77 3 = zI k) : ∀ (m n p : Nat), L ≤ p + m → p ≤ L → m < n → fX6_move_l55 N n (zI p) σ = some (si σ 77 5 (zI (rnN T L k (L + 1) p))) := by
  have hL := hT.1
  have c2 : (2 ≤ zI k) = False := by rw [show (2 : Int32) = zI 2 from rfl, zI_le (by omega) (by omega) (by omega) (by omega)]; exact eq_false (by omega)
  intro m
  induction m with
  | zero =>
    intro n p a1 a2 a3
    obtain ⟨n, rfl⟩ : ∃ k, n = k + 1 := ⟨n - 1, by omega⟩
    show fX6_move_s55 N _ (zI p) σ = _
    unfold fX6_move_s55
    have k3 : kd T L p = 3 := by unfold kd; rw [if_neg (by omega)]
    have c4 : (zI L ≤ zI p) = True := by rw [zI_le (by omega) (by omega) (by omega) (by omega)]; exact eq_true (by omega)
    rw [h7, h.2.1]
    simp only [c2, if_false, c4, if_true, nmM]
    rw [rn_rec T L (by omega), k3, if_neg (by omega)]
  | succ m ih =>
    intro n p a1 a2 a3
    obtain ⟨n, rfl⟩ : ∃ k, n = k + 1 := ⟨n - 1, by omega⟩
    show fX6_move_s55 N _ (zI p) σ = _
    unfold fX6_move_s55
    have hle := kd_le T L p
    rw [e_kindAt hT h (by omega), h7, h.2.1]
    have c3 : (zI (kd T L p) = zI k) = (kd T L p = k) := by rw [zI_eq (by omega) (by omega) (by omega) (by omega)]; exact propext (by omega)
    have c4 : (zI L ≤ zI p) = (L ≤ p) := by rw [zI_le (by omega) (by omega) (by omega) (by omega)]; exact propext (by omega)
    simp only [c2, if_false, c4, Option.bind_some, c3, nmM]
    rw [rn_rec T L (by omega)]
    by_cases q0 : L ≤ p
    · have k3 : kd T L p = 3 := by unfold kd; rw [if_neg (by omega)]
      rw [if_pos q0, k3, if_neg (by omega)]
    rw [if_neg q0]
    by_cases q : kd T L p = k
    · have hp := (kd_lt (T := T) (L := L) (p := p)).mp (by omega)
      rw [if_pos q, if_pos q, show zI p + 1 = zI ((p + 1 : Nat) : Int) by rw [show (1 : Int32) = zI 1 from rfl, zI_add]; rfl]
      exact ih n (p + 1) (by omega) (by omega) (by omega)
    · rw [if_neg q, if_neg q]
theorem e_move {N : Nat} (hN : 200000 ≤ N) (hT : okT T L) (h : txt T L σ) {p : Nat} (hp : p ≤ L) (h5 : gi σ 77 5 = zI p) : fX6_move N σ = some (mvS T L σ p) := by
  have hL := hT.1
  unfold fX6_move mvS
  rw [h5, e_move5 N hT h (L - p) N p (by omega) hp (by omega)]
  have hq := sk_le (T := T) hp
  generalize sk T L p = q at *
  unfold fX6_move_b30
  simp only [nmM]
  have ht : txt T L (si σ 77 4 (zI q)) := txt_fr h (by rw [gi_si, if_neg (by omega)]) (by rw [gi_si, if_neg (by omega)]) (fun j => by rw [gi_si, if_neg (by omega)])
  have hk := kd_le T L q
  rw [e_kindAt hT ht (by omega), Option.bind_some]
  have ht2 : txt T L (si (si σ 77 4 (zI q)) 77 3 (zI (kd T L q))) := txt_fr ht (by rw [gi_si, if_neg (by omega)]) (by rw [gi_si, if_neg (by omega)]) (fun j => by rw [gi_si, if_neg (by omega)])
  have g3 : gi (si (si σ 77 4 (zI q)) 77 3 (zI (kd T L q))) 77 3 = zI (kd T L q) := by rw [gi_si, if_pos ⟨rfl, rfl⟩]
  generalize si (si σ 77 4 (zI q)) 77 3 (zI (kd T L q)) = s at *
  rw [g3]
  have nx : zI q + 1 = zI ((q + 1 : Nat) : Int) := by rw [show (1 : Int32) = zI 1 from rfl, zI_add]; rfl
  rcases (by omega : kd T L q < 2 ∨ kd T L q = 2 ∨ kd T L q = 3) with g | g | g
  · have hlt := (kd_lt (T := T) (L := L) (p := q)).mp (by omega)
    have c : (zI (kd T L q) = 3) = False := by rw [show (3 : Int32) = zI 3 from rfl, zI_eq (by omega) (by omega) (by omega) (by omega)]; exact eq_false (by omega)
    simp only [c, if_false]
    rw [nx, e_move55 N hT ht2 g g3 (L - (q + 1)) N (q + 1) (by omega) (by omega) (by omega)]
    unfold te
    rw [if_neg (by omega), if_pos g]
  · have c : (zI (kd T L q) = 3) = False := by rw [show (3 : Int32) = zI 3 from rfl, zI_eq (by omega) (by omega) (by omega) (by omega)]; exact eq_false (by omega)
    simp only [c, if_false]
    obtain ⟨N, rfl⟩ : ∃ k, N = k + 1 := ⟨N - 1, by omega⟩
    rw [nx]
    show fX6_move_s55 (N + 1) (fX6_move_l55 (N + 1) N) _ s = _
    unfold fX6_move_s55
    rw [g3, g, if_pos (by decide), te_2 g]
  · rw [g, if_pos (by decide)]
    obtain ⟨N, rfl⟩ : ∃ k, N = k + 1 := ⟨N - 1, by omega⟩
    show fX6_move_s55 (N + 1) (fX6_move_l55 (N + 1) N) _ s = _
    unfold fX6_move_s55
    rw [g3, g, if_pos (by decide), te_3 g]
/-- the reader stands at a token -/
def atK (T : Nat → Int) (L : Nat) (i : Nat) (σ : qMem) : Prop := txt T L σ ∧ gi σ 77 3 = zI (kd T L (tkF T L i)) ∧ gi σ 77 4 = zI (tkF T L i) ∧ gi σ 77 5 = zI (tkT T L i)
theorem atK_fr {σ' : qMem} {i : Nat} (h : atK T L i σ) (hf : ∀ k j, (k = 77 ∧ 1 ≤ j ∧ j ≤ 5) ∨ k = 86 → gi σ' k j = gi σ k j) : atK T L i σ' :=
  ⟨txt_fr h.1 (hf _ _ (by omega)) (hf _ _ (by omega)) (fun j => hf _ _ (by omega)), (hf _ _ (by omega)).trans h.2.1, (hf _ _ (by omega)).trans h.2.2.1, (hf _ _ (by omega)).trans h.2.2.2⟩
theorem e_next {N : Nat} (hN : 200000 ≤ N) (hT : okT T L) {i : Nat} (h : atK T L i σ) : ∃ σ', fX6_move N σ = some σ' ∧ atK T L (i + 1) σ' ∧ ∀ k j, ¬ (k = 77 ∧ 3 ≤ j ∧ j ≤ 5) → gi σ' k j = gi σ k j := by
  have hle : tkT T L i ≤ L := (te_rng (tkF_le T L i)).2.1
  have hf : ∀ k j, ¬ (k = 77 ∧ 3 ≤ j ∧ j ≤ 5) → gi (mvS T L σ (tkT T L i)) k j = gi σ k j := fun k j hk => by
    unfold mvS
    rw [gi_si, if_neg (by omega), gi_si, if_neg (by omega), gi_si, if_neg (by omega)]
  refine ⟨_, e_move hN hT h.1 hle h.2.2.2, ⟨txt_fr h.1 (hf _ _ (by omega)) (hf _ _ (by omega)) (fun j => hf _ _ (by omega)), ?_, ?_, ?_⟩, hf⟩
  · unfold mvS; rw [gi_si, if_neg (by omega), gi_si, if_pos ⟨rfl, rfl⟩]; rfl
  · unfold mvS; rw [gi_si, if_neg (by omega), gi_si, if_neg (by omega), gi_si, if_pos ⟨rfl, rfl⟩]; rfl
  · unfold mvS; rw [gi_si, if_pos ⟨rfl, rfl⟩]; rfl
theorem tc_sign (hT : okT T L) {i : Nat} {s : Int} (hs : 0 ≤ s) : tcS T L i = 100 + s ↔ (kd T L (tkF T L i) = 2 ∧ T (tkF T L i) = s) := by
  unfold tcS cdP
  have hk := kd_le T L (tkF T L i)
  rcases (by omega : kd T L (tkF T L i) = 0 ∨ kd T L (tkF T L i) = 1 ∨ kd T L (tkF T L i) = 2 ∨ kd T L (tkF T L i) = 3) with g | g | g | g
  · rw [if_pos g]
    have := wc_rng (slc T (tkF T L i) (te T L (tkF T L i) - tkF T L i))
    omega
  · rw [if_neg (by omega), if_pos g]; omega
  · rw [if_neg (by omega), if_neg (by omega), if_pos g]; omega
  · rw [if_neg (by omega), if_neg (by omega), if_neg (by omega)]; omega
theorem e_isSign (hT : okT T L) {i : Nat} (h : atK T L i σ) {s : Int} (hs : 0 ≤ s) (hs2 : s ≤ 255) : fX6_isSign (zI s) σ = some (bI (decide (tcS T L i = 100 + s))) := by
  have hL := hT.1
  have hF := tkF_le T L i
  have hk := kd_le T L (tkF T L i)
  obtain ⟨⟨h1, h2, h3⟩, g3, g4, g5⟩ := h
  have e : decide (tcS T L i = 100 + s) = decide (kd T L (tkF T L i) = 2 ∧ T (tkF T L i) = s) := decide_eq_decide.mpr (tc_sign hT hs)
  rw [e]
  unfold fX6_isSign fX6_isSign_b36
  have c86 : ((86 : Int32).toNatClampNeg = 86) = True := eq_true (by decide)
  have c1 : (zI (kd T L (tkF T L i)) = 2) = (kd T L (tkF T L i) = 2) := by rw [show (2 : Int32) = zI 2 from rfl, zI_eq (by omega) (by omega) (by omega) (by omega)]; exact propext (by omega)
  simp only [h1, h2, g3, g4, c86, if_true, c1]
  by_cases q : kd T L (tkF T L i) = 2
  · have hlt := (kd_lt (T := T) (L := L) (p := tkF T L i)).mp (by omega)
    have r := hT.2 _ hlt
    have c2 : (zI L ≤ zI (tkF T L i)) = False := by rw [zI_le (by omega) (by omega) (by omega) (by omega)]; exact eq_false (by omega)
    have k0 : (ck (zI (tkF T L i)) 400 = true) = True := zI_ckT (by omega) (by omega) (by omega)
    have z0 : (zI (tkF T L i)).toNatClampNeg = tkF T L i := by rw [zI_clamp (by omega) (by omega)]; omega
    have c3 : (zI (T (tkF T L i)) = zI s) = (T (tkF T L i) = s) := by rw [zI_eq (by omega) (by omega) (by omega) (by omega)]
    rw [if_pos q]
    simp only [c2, if_false, k0, z0, if_true, h3 _ hlt, c3]
    by_cases q2 : T (tkF T L i) = s
    · rw [if_pos q2, decide_eq_true ⟨q, q2⟩]; rfl
    · rw [if_neg q2, decide_eq_false (fun z => q2 z.2)]; rfl
  · rw [if_neg q, decide_eq_false (fun z => q z.1)]; rfl
theorem slc_cons (T : Nat → Int) (p n : Nat) : slc T p (n + 1) = T p :: slc T (p + 1) n := by
  unfold slc
  rw [List.range_succ_eq_map, List.map_cons, List.map_map]
  simp only [Nat.add_zero]
  congr 1
  apply List.map_congr_left
  intro a _
  show T (p + (a + 1)) = T (p + 1 + a)
  congr 1
  omega
theorem e_wdC (hT : okT T L) (h1 : gi σ 77 1 = 86) (h3 : ∀ j, j < L → gi σ 86 j = zI (T j)) {p : Nat} (g4 : gi σ 77 4 = zI p) : ∀ (w : List Int) (j : Nat), p + j + w.length ≤ L → (∀ x ∈ w, 0 ≤ x ∧ x ≤ 255) → wdC σ (w.map zI) (zI j) = some (bI (decide (slc T (p + j) w.length = w))) := by
  have hL := hT.1
  have c86 : ((86 : Int32).toNatClampNeg = 86) = True := eq_true (by decide)
  intro w
  induction w with
  | nil => intro j _ _; rfl
  | cons b bs ih =>
    intro j hj hw
    rw [List.length_cons] at hj
    show (if (gi σ 77 1).toNatClampNeg = 86 then (if ck (gi σ 77 4 + zI j) 400 = true then (if gi σ 86 (gi σ 77 4 + zI j).toNatClampNeg = zI b then wdC σ (bs.map zI) (zI j + 1) else some 0) else none) else none) = _
    have e : zI p + zI j = zI ((p + j : Nat) : Int) := by rw [zI_add]; rfl
    have k0 : (ck (zI ((p + j : Nat) : Int)) 400 = true) = True := zI_ckT (by omega) (by omega) (by omega)
    have z0 : (zI ((p + j : Nat) : Int)).toNatClampNeg = p + j := by rw [zI_clamp (by omega) (by omega)]; omega
    have rb := hw b List.mem_cons_self
    have r := hT.2 (p + j) (by omega)
    have c3 : (zI (T (p + j)) = zI b) = (T (p + j) = b) := by rw [zI_eq (by omega) (by omega) (by omega) (by omega)]
    simp only [h1, g4, e, c86, if_true, k0, z0, h3 (p + j) (by omega), c3]
    rw [List.length_cons, slc_cons]
    by_cases q : T (p + j) = b
    · rw [if_pos q, show zI j + 1 = zI ((j + 1 : Nat) : Int) by rw [show (1 : Int32) = zI 1 from rfl, zI_add]; rfl, ih (j + 1) (by omega) (fun x hx => hw x (List.mem_cons_of_mem _ hx)), q]
      congr 2
      rw [show p + (j + 1) = p + j + 1 by omega]
      exact decide_eq_decide.mpr ⟨fun z => by rw [z], fun z => (List.cons.inj z).2⟩
    · rw [if_neg q, decide_eq_false (fun z => q (List.cons.inj z).1)]; rfl
theorem slc_len (T : Nat → Int) (p n : Nat) : (slc T p n).length = n := by unfold slc; rw [List.length_map, List.length_range]
theorem wl_rng : ∀ w : Fin 12, (∀ x ∈ wl.getD w.val [], 0 ≤ x ∧ x ≤ 255) ∧ (wl.getD w.val []).length ≤ 5 ∧ strB.getD w.val [] = (wl.getD w.val []).map zI := by decide +kernel
theorem tc_word {i w : Nat} (hw : w < 12) (hT : okT T L) : tcS T L i = (w : Int) + 1 ↔ (kd T L (tkF T L i) = 0 ∧ slc T (tkF T L i) (tkT T L i - tkF T L i) = wl.getD w []) := by
  unfold tcS cdP
  have hk := kd_le T L (tkF T L i)
  rcases (by omega : kd T L (tkF T L i) = 0 ∨ kd T L (tkF T L i) = 1 ∨ kd T L (tkF T L i) = 2 ∨ kd T L (tkF T L i) = 3) with g | g | g | g
  · rw [if_pos g, wc_iff hw]
    exact ⟨fun z => ⟨g, z⟩, fun z => z.2⟩
  · rw [if_neg (by omega), if_pos g]; omega
  · rw [if_neg (by omega), if_neg (by omega), if_pos g]
    have := hT.2 _ ((kd_lt (T := T) (L := L) (p := tkF T L i)).mp (by omega))
    omega
  · rw [if_neg (by omega), if_neg (by omega), if_neg (by omega)]; omega
theorem e_isWord (hT : okT T L) {i : Nat} (h : atK T L i σ) {w : Nat} (hw : w < 12) : fX6_isWord w σ = some (bI (decide (tcS T L i = (w : Int) + 1))) := by
  have hL := hT.1
  have hF := tkF_le T L i
  have hk := kd_le T L (tkF T L i)
  have hTo : tkF T L i ≤ tkT T L i ∧ tkT T L i ≤ L := ⟨(te_rng (tkF_le T L i)).1, (te_rng (tkF_le T L i)).2.1⟩
  obtain ⟨⟨h1, h2, h3⟩, g3, g4, g5⟩ := h
  have tw := tc_word (i := i) hw hT
  obtain ⟨w1, w2, w3⟩ := wl_rng ⟨w, hw⟩
  simp only at w1 w2 w3
  unfold fX6_isWord
  rw [w3, List.length_map]
  generalize wl.getD w [] = ws at *
  have c1 : (zI (kd T L (tkF T L i)) = 0) = (kd T L (tkF T L i) = 0) := by rw [show (0 : Int32) = zI 0 from rfl, zI_eq (by omega) (by omega) (by omega) (by omega)]; exact propext (by omega)
  have c2 : (zI (tkT T L i) - zI (tkF T L i) = nI ws.length) = (tkT T L i - tkF T L i = ws.length) := by rw [zI_sub, nI_zI, zI_eq (by omega) (by omega) (by omega) (by omega)]; exact propext (by omega)
  simp only [g3, g4, g5, c1, c2]
  by_cases q : kd T L (tkF T L i) = 0
  · rw [if_pos q]
    by_cases q2 : tkT T L i - tkF T L i = ws.length
    · have e0 : wdC σ (ws.map zI) 0 = _ := e_wdC hT h1 h3 g4 ws 0 (by omega) w1
      rw [if_pos q2, e0]
      congr 2
      exact decide_eq_decide.mpr ⟨fun z => tw.mpr ⟨q, by rw [q2]; exact z⟩, fun z => by rw [← q2]; exact (tw.mp z).2⟩
    · rw [if_neg q2, decide_eq_false (fun z => q2 (by have := congrArg List.length (tw.mp z).2; rwa [slc_len] at this))]; rfl
  · rw [if_neg q, decide_eq_false (fun z => q (tw.mp z).1)]; rfl
theorem e_number {N : Nat} (hN : 200000 ≤ N) (hT : okT T L) {i : Nat} (h : atK T L i σ) (hk : kd T L (tkF T L i) = 1) : ∃ v : Int, fX6_number N σ = some (zI v) ∧ 0 ≤ v ∧ v ≤ 10009 ∧ (v ≤ 1000 ↔ tvS T L i ≤ 1000) ∧ (v ≤ 1000 → tvS T L i = v) := by
  have hL := hT.1
  have hrun := te_run (T := T) (L := L) (p := tkF T L i) (by omega)
  obtain ⟨⟨h1, h2, h3⟩, g3, g4, g5⟩ := h
  have c86 : ((86 : Int32).toNatClampNeg = 86) = True := eq_true (by decide)
  have dg : ∀ r, tkF T L i ≤ r → r < tkT T L i → r < L ∧ 48 ≤ T r ∧ T r ≤ 57 := fun r r1 r2 => by
    have e := hrun.2.2.1 r r1 r2
    rw [hk] at e
    have hlt := (kd_lt (T := T) (L := L) (p := r)).mp (by omega)
    refine ⟨hlt, ?_⟩
    unfold kd at e
    rw [if_pos hlt] at e
    by_cases q1 : isLo (T r) = true
    · rw [if_pos q1] at e; omega
    · rw [if_neg q1] at e
      by_cases q2 : isDg (T r) = true
      · exact of_decide_eq_true q2
      · rw [if_neg q2] at e; omega
  have hTo : tkF T L i + 1 ≤ tkT T L i ∧ tkT T L i ≤ L := ⟨hrun.1, hrun.2.1⟩
  have hvv := fun m (hm : m ≤ tkT T L i - tkF T L i) => hv (T := T) (p := tkF T L i) m (fun r hr => (dg (tkF T L i + r) (by omega) (by omega)).2)
  have loop : ∀ (m n c : Nat), c + m = tkT T L i - tkF T L i → m < n → ∃ v : Int, fX6_number_l7 N σ n (zI (hvN T (tkF T L i) c)) (zI ((tkF T L i + c : Nat) : Int)) = some (zI v) ∧ v = hvN T (tkF T L i) (tkT T L i - tkF T L i) := by
    intro m
    induction m with
    | zero =>
      intro n c hc hn
      obtain ⟨n, rfl⟩ : ∃ k, n = k + 1 := ⟨n - 1, by omega⟩
      refine ⟨hvN T (tkF T L i) c, ?_, by rw [show c = tkT T L i - tkF T L i by omega]⟩
      show fX6_number_s7 N _ _ _ σ = _
      unfold fX6_number_s7
      have c1 : (zI (tkT T L i) ≤ zI ((tkF T L i + c : Nat) : Int)) = True := by rw [zI_le (by omega) (by omega) (by omega) (by omega)]; exact eq_true (by omega)
      simp only [g5, c1, if_true]
    | succ m ih =>
      intro n c hc hn
      obtain ⟨n, rfl⟩ : ∃ k, n = k + 1 := ⟨n - 1, by omega⟩
      have hb := (hvv c (by omega)).1
      have c1 : (zI (tkT T L i) ≤ zI ((tkF T L i + c : Nat) : Int)) = False := by rw [zI_le (by omega) (by omega) (by omega) (by omega)]; exact eq_false (by omega)
      have c2 : (1000 < zI (hvN T (tkF T L i) c)) = (1000 < hvN T (tkF T L i) c) := by rw [zl_1000, zI_lt (by omega) (by omega) (by omega) (by omega)]
      have k0 : (ck (zI ((tkF T L i + c : Nat) : Int)) 400 = true) = True := zI_ckT (by omega) (by omega) (by omega)
      have z0 : (zI ((tkF T L i + c : Nat) : Int)).toNatClampNeg = tkF T L i + c := by rw [zI_clamp (by omega) (by omega)]; omega
      have sat : ∀ d, 1000 < hvN T (tkF T L i) c → hvN T (tkF T L i) (c + d) = hvN T (tkF T L i) c := by
        intro d q
        induction d with
        | zero => rfl
        | succ d ihd =>
          show (if 1000 < hvN T (tkF T L i) (c + d) then hvN T (tkF T L i) (c + d) else _) = _
          rw [ihd, if_pos q]
      by_cases q : 1000 < hvN T (tkF T L i) c
      · refine ⟨hvN T (tkF T L i) c, ?_, ?_⟩
        · show fX6_number_s7 N _ _ _ σ = _
          unfold fX6_number_s7
          simp only [g5, c1, if_false, c2]
          rw [if_pos q]
        · rw [show tkT T L i - tkF T L i = c + (m + 1) by omega]
          exact (sat _ q).symm
      · obtain ⟨v, e, ev⟩ := ih n (c + 1) (by omega) (by omega)
        refine ⟨v, ?_, ev⟩
        show fX6_number_s7 N _ _ _ σ = _
        unfold fX6_number_s7
        simp only [g5, c1, if_false, c2]
        rw [if_neg q]
        simp only [h1, c86, if_true, k0, z0, h3 _ (dg (tkF T L i + c) (by omega) (by omega)).1, nmI]
        rw [← e]
        have e1 : zI (hvN T (tkF T L i) c) * 10 + zI (T (tkF T L i + c)) - 48 = zI (hvN T (tkF T L i) (c + 1)) := by
          rw [show (10 : Int32) = zI 10 from rfl, show (48 : Int32) = zI 48 from rfl, zI_mul, zI_add, zI_sub]
          congr 1
          show _ = hvN T (tkF T L i) (c + 1)
          conv => rhs; unfold hvN
          rw [if_neg q]
          omega
        rw [e1]
        congr 1
        rw [show (1 : Int32) = zI 1 from rfl, zI_add]
        congr 1
  obtain ⟨v, e, ev⟩ := loop (tkT T L i - tkF T L i) N 0 (by omega) (by omega)
  refine ⟨v, ?_, ?_⟩
  · unfold fX6_number
    rw [g4]
    exact e
  · have hb := hvv (tkT T L i - tkF T L i) (Nat.le_refl _)
    rw [← ev] at hb
    have et : tvS T L i = vN T (tkF T L i) (tkT T L i - tkF T L i) := by
      unfold tvS vlP
      rw [if_pos hk]
      rfl
    rw [et]
    refine ⟨hb.1.1, hb.1.2.1, ⟨fun z => ?_, fun z => ?_⟩, hb.2.1⟩
    · rw [hb.2.1 z]; exact z
    · by_cases q : v ≤ 1000
      · exact q
      · have := hb.2.2 (by omega); omega
end RD
