/-! the reference says a law: sums -/
def Ev (tc tv : Nat → Int) (n : Nat) (e : Nat → Int) (i : Nat) (τ : qMem) : Prop := gi τ 0 37 = zI i ∧ gi τ 0 38 = zI n ∧ (∀ q, q < n → gi τ 2 (312 + q) = zI (tc q) ∧ gi τ 2 (712 + q) = zI (tv q)) ∧ (∀ w, w < 5 → gi τ 23 w = zI (e w)) ∧ (gi τ 0 39 = 0 ∨ gi τ 0 39 = 1)
def frG (τ t : qMem) : Prop := ∀ k j, ¬ (k = 0 ∧ (j = 37 ∨ j = 39)) → gi t k j = gi τ k j
theorem frG_refl (τ : qMem) : frG τ τ := fun _ _ _ => rfl
theorem frG_trans {a b c : qMem} (h : frG a b) (h2 : frG b c) : frG a c := fun k j hk => (h2 k j hk).trans (h k j hk)
/-- what tokens and values are -/
def okK (tc tv : Nat → Int) (n : Nat) (e : Nat → Int) : Prop := n ≤ 400 ∧ (∀ q, q < n → -2147483648 ≤ tc q ∧ tc q < 2147483648) ∧ (∀ q, n ≤ q → tc q = 0) ∧ (∀ q, 0 ≤ tv q ∧ tv q < 2147483648) ∧ okV e
def rv (live : Bool) (τ t : qMem) (f : Option Int) (v : Int64) : Prop := (live = true → gi τ 0 39 = 0 → (∀ x, f = some x → v = zL x ∧ gi t 0 39 = 0) ∧ (f = none → gi t 0 39 = 1)) ∧ ((live = false ∨ gi τ 0 39 ≠ 0) → gi t 0 39 = gi τ 0 39)
def smO (f : Option Int) : Prop := ∀ x, f = some x → smE x
theorem opS_sm {o x y : Int} : smO (opS o x y) := fun r h => by
  unfold opS at h
  by_cases q : -1000000000 ≤ opR o x y ∧ opR o x y ≤ 1000000000
  · rw [if_pos q] at h
    have : opR o x y = r := by simpa using h
    rw [← this]; exact q
  · rw [if_neg q] at h; simp at h
theorem bin_sm {o : Int} {a b : EE} {e : Nat → Int} : smO ((binE o a b).2 e) := fun r h => by
  have h' : ((a.2 e).bind fun x => (b.2 e).bind fun y => opS o x y) = some r := h
  cases hfa : a.2 e with
  | none => rw [hfa] at h'; simp at h'
  | some x =>
    cases hfb : b.2 e with
    | none => rw [hfa, hfb] at h'; simp at h'
    | some y =>
      rw [hfa, hfb] at h'
      exact opS_sm r h'
theorem n10f : ((1 : Int32) = 0) = False := eq_false n10
section EV
variable {tc tv : Nat → Int} {n : Nat} {e : Nat → Int}
theorem tc_rK (h : okK tc tv n e) (i : Nat) : -2147483648 ≤ tc i ∧ tc i < 2147483648 := by
  by_cases q : i < n
  · exact h.2.1 i q
  · rw [h.2.2.1 i (by omega)]; omega
theorem r_codeAt (h : okK tc tv n e) {τ : qMem} {i : Nat} (he : Ev tc tv n e i τ) (hi : i ≤ 500) : fX12_codeAt (gi τ 0 37) τ = some (zI (tc i)) := by
  have hn := h.1
  unfold fX12_codeAt
  rw [he.1, he.2.1]
  have c1 : (zI n ≤ zI i) = (n ≤ i) := by rw [zI_le (by omega) (by omega) (by omega) (by omega)]; exact propext (by omega)
  have e3 : (312 : Int32) + zI i = zI ((312 + i : Nat) : Int) := by rw [show (312 : Int32) = zI 312 from rfl, zI_add]; congr 1
  have k3 : (ck (zI ((312 + i : Nat) : Int)) 1112 = true) = True := zI_ckT (by omega) (by omega) (by omega)
  have z3 : (zI ((312 + i : Nat) : Int)).toNatClampNeg = 312 + i := by rw [zI_clamp (by omega) (by omega)]; omega
  simp only [c1, e3, k3, z3, if_true]
  by_cases q : n ≤ i
  · rw [if_pos q, h.2.2.1 i q]; rfl
  · rw [if_neg q, (he.2.2.1 i (by omega)).1]
theorem Ev_39 {τ : qMem} {i : Nat} {x : Int32} (he : Ev tc tv n e i τ) (hx : x = 0 ∨ x = 1) : Ev tc tv n e i (si τ 0 39 x) ∧ frG τ (si τ 0 39 x) ∧ gi (si τ 0 39 x) 0 39 = x := by
  have f : frG τ (si τ 0 39 x) := fun k j hk => by rw [gi_si, if_neg (by omega)]
  have g : gi (si τ 0 39 x) 0 39 = x := by rw [gi_si, if_pos ⟨rfl, rfl⟩]
  exact ⟨⟨by rw [gi_si, if_neg (by omega)]; exact he.1, (f _ _ (by omega)).trans he.2.1, fun q hq => ⟨(f _ _ (by omega)).trans (he.2.2.1 q hq).1, (f _ _ (by omega)).trans (he.2.2.1 q hq).2⟩, fun w hw => (f _ _ (by omega)).trans (he.2.2.2.1 w hw), by rw [g]; exact hx⟩, f, g⟩
theorem Ev_step {τ : qMem} {i : Nat} (he : Ev tc tv n e i τ) : Ev tc tv n e (i + 1) (si τ 0 37 (gi τ 0 37 + 1)) ∧ frG τ (si τ 0 37 (gi τ 0 37 + 1)) ∧ gi (si τ 0 37 (gi τ 0 37 + 1)) 0 39 = gi τ 0 39 := by
  have f : frG τ (si τ 0 37 (gi τ 0 37 + 1)) := fun k j hk => by rw [gi_si, if_neg (by omega)]
  have g : gi (si τ 0 37 (gi τ 0 37 + 1)) 0 39 = gi τ 0 39 := by rw [gi_si, if_neg (by omega)]
  exact ⟨⟨by rw [gi_si, if_pos ⟨rfl, rfl⟩, he.1, show (1 : Int32) = zI 1 from rfl, zI_add]; rfl, (f _ _ (by omega)).trans he.2.1, fun q hq => ⟨(f _ _ (by omega)).trans (he.2.2.1 q hq).1, (f _ _ (by omega)).trans (he.2.2.1 q hq).2⟩, fun w hw => (f _ _ (by omega)).trans (he.2.2.2.1 w hw), by rw [g]; exact he.2.2.2.2⟩, f, g⟩
theorem r_passes (h : okK tc tv n e) {τ : qMem} {i : Nat} {c : Int} (he : Ev tc tv n e i τ) (hi : i ≤ 500) (hc : 0 ≤ c) (hc2 : c ≤ 1000) : fX12_passes (zI c) τ = if tc i = c then some (1, si τ 0 37 (gi τ 0 37 + 1)) else some (0, τ) := by
  unfold fX12_passes fX12_passes_b17
  have r := tc_rK h i
  rw [r_codeAt h he hi, Option.bind_some]
  have c1 : (zI (tc i) = zI c) = (tc i = c) := by rw [zI_eq r.1 r.2 (by omega) (by omega)]
  simp only [c1, nmM]
  by_cases q : tc i = c
  · rw [if_pos q, if_pos q]
    simp only [n10f, if_false, or_true, if_true]
  · rw [if_neg q, if_neg q]
    simp only [if_true, true_or]
/-- a number is bounded -/
theorem bnd_dead {τ : qMem} {i : Nat} {live : Bool} {u : Int64} (he : Ev tc tv n e i τ) (hd : live = false ∨ gi τ 0 39 ≠ 0) : Ho (fX12_bounded u (bI live) τ) (fun y => Ev tc tv n e i y.2 ∧ frG τ y.2 ∧ gi y.2 0 39 = gi τ 0 39) := by
  have b25 : ∀ t, Ev tc tv n e i t → frG τ t → gi t 0 39 = gi τ 0 39 → Ho (fX12_bounded_b25 u t) (fun y => Ev tc tv n e i y.2 ∧ frG τ y.2 ∧ gi y.2 0 39 = gi τ 0 39) := fun t h1 h2 h3 => by
    unfold fX12_bounded_b25
    split
    · exact Ho_some ⟨h1, h2, h3⟩
    · exact Ho_some ⟨h1, h2, h3⟩
  unfold fX12_bounded fX12_bounded_b20
  simp only [nmM]
  cases live with
  | false => rw [bI_f, if_pos rfl]; exact b25 τ he (frG_refl τ) rfl
  | true =>
    rw [bI_t, if_neg (by decide)]
    have h1 : gi τ 0 39 = 1 := by
      rcases hd with z | z
      · simp at z
      · rcases he.2.2.2.2 with y | y
        · exact absurd y z
        · exact y
    obtain ⟨a, b, c⟩ := Ev_39 (x := 1) he (Or.inr rfl)
    split
    · exact b25 _ a b (c.trans h1.symm)
    · split
      · exact b25 τ he (frG_refl τ) rfl
      · exact b25 _ a b (c.trans h1.symm)
theorem bnd_live {τ : qMem} {i : Nat} {r : Int} (he : Ev tc tv n e i τ) (h0 : gi τ 0 39 = 0) (hr : -1000000000000000000 ≤ r ∧ r ≤ 1000000000000000000) : Ho (fX12_bounded (zL r) (bI true) τ) (fun y => Ev tc tv n e i y.2 ∧ frG τ y.2 ∧ (smE r → y.1 = zL r ∧ gi y.2 0 39 = 0) ∧ (¬ smE r → gi y.2 0 39 = 1)) := by
  unfold fX12_bounded fX12_bounded_b20 fX12_bounded_b25
  have l1 : (0 < lg_cmp (zL r) 1000000000) = (1000000000 < r) := by rw [show (1000000000 : Int64) = zL 1000000000 from rfl]; exact propext ((lg_cmp_gt _ _).trans (by rw [zL_lt (by omega) (by omega) (by omega) (by omega)]))
  have l2 : (0 ≤ lg_cmp (zL r) (-1000000000)) = (-1000000000 ≤ r) := by rw [show (-1000000000 : Int64) = zL (-1000000000) from rfl]; exact propext ((lg_cmp_ge _ _).trans (by rw [zL_le (by omega) (by omega) (by omega) (by omega)]))
  obtain ⟨a, b, c⟩ := Ev_39 (x := 1) he (Or.inr rfl)
  simp only [nmM, l1, l2, c, h0, bI_t, n10f, if_false, if_true]
  unfold smE
  by_cases q1 : 1000000000 < r
  · rw [if_pos q1]; exact Ho_some ⟨a, b, fun z => by omega, fun _ => c⟩
  · rw [if_neg q1]
    by_cases q2 : -1000000000 ≤ r
    · rw [if_pos q2]; exact Ho_some ⟨he, frG_refl τ, fun _ => ⟨rfl, h0⟩, fun z => by omega⟩
    · rw [if_neg q2]; exact Ho_some ⟨a, b, fun z => by omega, fun _ => c⟩
/-- two results, one behind the other, and an operation -/
def opQ (tc tv : Nat → Int) (n : Nat) (e : Nat → Int) (i : Nat) (live : Bool) (τ0 τ : qMem) (f : Option Int) (y : Int64 × qMem) : Prop := Ev tc tv n e i y.2 ∧ frG τ y.2 ∧ rv live τ0 y.2 f y.1
theorem join_rv {τ0 τ1 τ2 : qMem} {i : Nat} {live : Bool} {fa fb : Option Int} {v w : Int64} {o : Int} (ra : rv live τ0 τ1 fa v) (rb : rv live τ1 τ2 fb w) (he : Ev tc tv n e i τ2) :
    ((live = false ∨ gi τ2 0 39 ≠ 0) ∧ ∀ t v', gi t 0 39 = gi τ2 0 39 → rv live τ0 t (fa.bind fun x => fb.bind fun y => opS o x y) v') ∨
    (live = true ∧ gi τ2 0 39 = 0 ∧ ∃ x y, fa = some x ∧ fb = some y ∧ v = zL x ∧ w = zL y ∧ ∀ t v', (∀ r, opS o x y = some r → v' = zL r ∧ gi t 0 39 = 0) → (opS o x y = none → gi t 0 39 = 1) → rv live τ0 t (fa.bind fun x => fb.bind fun y => opS o x y) v') := by
  by_cases c : live = true ∧ gi τ0 0 39 = 0
  · obtain ⟨c1, c2⟩ := c
    subst c1
    cases fa with
    | none =>
      have h1 := (ra.1 rfl c2).2 rfl
      have h2 := rb.2 (Or.inr (by rw [h1]; decide))
      refine Or.inl ⟨Or.inr (by rw [h2, h1]; decide), fun t v' ht => ⟨fun _ _ => ⟨fun x hx => by simp at hx, fun _ => by rw [ht, h2, h1]⟩, fun z => ?_⟩⟩
      rcases z with z | z
      · simp at z
      · exact absurd c2 z
    | some x =>
      obtain ⟨v1, h1⟩ := (ra.1 rfl c2).1 x rfl
      cases fb with
      | none =>
        have h2 := (rb.1 rfl h1).2 rfl
        refine Or.inl ⟨Or.inr (by rw [h2]; decide), fun t v' ht => ⟨fun _ _ => ⟨fun x hx => by simp at hx, fun _ => by rw [ht, h2]⟩, fun z => ?_⟩⟩
        rcases z with z | z
        · simp at z
        · exact absurd c2 z
      | some y =>
        obtain ⟨w1, h2⟩ := (rb.1 rfl h1).1 y rfl
        refine Or.inr ⟨rfl, h2, x, y, rfl, rfl, v1, w1, fun t v' k1 k2 => ⟨fun _ _ => ⟨k1, k2⟩, fun z => ?_⟩⟩
        rcases z with z | z
        · simp at z
        · exact absurd c2 z
  · have d0 : live = false ∨ gi τ0 0 39 ≠ 0 := by
      cases live with
      | false => exact Or.inl rfl
      | true => exact Or.inr (fun z => c ⟨rfl, z⟩)
    have h1 := ra.2 d0
    have d1 : live = false ∨ gi τ1 0 39 ≠ 0 := by rw [h1]; exact d0
    have h2 := rb.2 d1
    have d2 : live = false ∨ gi τ2 0 39 ≠ 0 := by rw [h2]; exact d1
    refine Or.inl ⟨d2, fun t v' ht => ⟨fun z1 z2 => absurd ⟨z1, z2⟩ c, fun _ => by rw [ht, h2, h1]⟩⟩
def RvE (tc tv : Nat → Int) (n : Nat) (e : Nat → Int) (F : Int32 → qMem → Option (Int64 × qMem)) (P : Nat → Nat → Except Nat (EE × Nat × Nat)) : Prop := ∀ i l a j l', P i l = .ok (a, j, l') → i ≤ n → ∀ live τ, Ev tc tv n e i τ → Ho (F (bI live) τ) (opQ tc tv n e j live τ τ (a.2 e)) ∧ smO (a.2 e) ∧ j ≤ n ∧ i < j
theorem rv_frame {live : Bool} {τ0 τ0' t : qMem} {f : Option Int} {v : Int64} (h : rv live τ0 t f v) (g : gi τ0' 0 39 = gi τ0 0 39) : rv live τ0' t f v := by
  unfold rv at h ⊢
  rw [g]
  exact h
theorem v_part {N : Nat} {rs : Int32 → qMem → Option (Int64 × qMem)} {d : Nat} (h : okK tc tv n e) (hi : ∀ d', d = d' + 1 → RvE tc tv n e rs (pSum tc tv (pIn tc tv d'))) : RvE tc tv n e (fX12_partOf N rs) (pPart tc tv (pIn tc tv d)) := by
  have hn := h.1
  have h0 : ∀ x, tc x ≠ 0 → x < n := fun x hx => by
    by_cases q : x < n
    · exact q
    · exact absurd (h.2.2.1 x (by omega)) hx
  intro i l a j l' hp hin live τ he
  have r := tc_rK h i
  have ps : fX12_passes (100 + 91) τ = _ := r_passes h (c := 191) he (by omega) (by omega) (by omega)
  unfold fX12_partOf fX12_sign
  rw [Option.bind_some, ps]
  obtain ⟨s1, s2, s3⟩ := Ev_step he
  unfold pPart at hp
  by_cases c : tc i = 191
  · rw [if_pos c] at hp
    rw [if_pos c, Option.bind_some, if_neg (show ¬ ((1 : Int32), si τ 0 37 (gi τ 0 37 + 1)).1 = 0 from n10)]
    cases d with
    | zero => unfold pIn at hp; simp at hp
    | succ d =>
      unfold pIn at hp
      obtain ⟨b1, j1, l1, e1, e2⟩ := bd_ok hp
      by_cases c3 : tc j1 = 193
      · rw [if_pos c3] at e2
        simp only [Except.ok.injEq, Prod.mk.injEq] at e2
        obtain ⟨q1, q2, q3⟩ := e2
        subst q1 q2
        obtain ⟨H, sm, jn, ij⟩ := hi d rfl (i + 1) l b1 j1 l1 e1 (h0 i (by omega)) live _ s1
        refine ⟨?_, sm, h0 j1 (by omega), by omega⟩
        refine Ho_bind H (fun y ⟨y1, y2, y3⟩ => ?_)
        simp only [nmM]
        obtain ⟨u1, u2, u3⟩ := Ev_step y1
        refine Ho_some ⟨u1, frG_trans s2 (frG_trans y2 u2), ?_⟩
        refine rv_frame (τ0 := si τ 0 37 (gi τ 0 37 + 1)) ?_ s3.symm
        unfold rv at y3 ⊢
        show (live = true → _ → (∀ x, _ → _ ∧ gi (si y.2 0 37 (gi y.2 0 37 + 1)) 0 39 = 0) ∧ _) ∧ _
        rw [u3]
        exact y3
      · rw [if_neg c3] at e2; simp at e2
  · rw [if_neg c] at hp
    rw [if_neg c, Option.bind_some, if_pos rfl]
    by_cases c2 : (tc i = 50 ∧ tv i ≤ 1000) ∨ (8 ≤ tc i ∧ tc i ≤ 12)
    · rw [if_pos c2] at hp
      by_cases c3 : 50 ≤ l
      · rw [if_pos c3] at hp; simp at hp
      · rw [if_neg c3] at hp
        simp only [Except.ok.injEq, Prod.mk.injEq] at hp
        obtain ⟨q1, q2, q3⟩ := hp
        subst q2
        have hlt : i < n := h0 i (by omega)
        have tvr := h.2.2.2.1 i
        have sm : smO (a.2 e) := by
          rw [← q1]
          intro x hx
          by_cases c5 : tc i = 50
          · rw [if_pos c5] at hx
            have : tv i = x := by simpa [numE] using hx
            unfold smE; omega
          · rw [if_neg c5] at hx
            have : e (tc i - 8).toNat = x := by simpa [wrdE] using hx
            rw [← this]
            exact h.2.2.2.2 _ (by omega)
        refine ⟨?_, sm, hlt, by omega⟩
        show Ho ((fX12_codeAt (gi τ 0 37) τ).bind _) _
        rw [r_codeAt h he (by omega), Option.bind_some]
        simp only [nmM, s3]
        cases live with
        | false =>
          rw [bI_f, if_pos rfl]
          exact Ho_some ⟨s1, s2, fun z => by simp at z, fun _ => s3⟩
        | true =>
          rw [bI_t, if_neg (by decide)]
          by_cases b0 : gi τ 0 39 = 0
          · rw [if_pos b0]
            have e50 : (zI (tc i) = 50) = (tc i = 50) := by rw [show (50 : Int32) = zI 50 from rfl, zI_eq r.1 r.2 (by omega) (by omega)]
            simp only [e50]
            have done : ∀ v : Int64, (∀ x, a.2 e = some x → v = zL x) → (a.2 e ≠ none) → Ho (some (v, si τ 0 37 (gi τ 0 37 + 1))) (opQ tc tv n e (i + 1) true τ τ (a.2 e)) := fun v hv hne => by
              refine Ho_some ⟨s1, s2, fun _ _ => ⟨fun x hx => ⟨hv x hx, by rw [s3]; exact b0⟩, fun z => absurd z hne⟩, fun z => ?_⟩
              rcases z with z | z
              · simp at z
              · exact absurd b0 z
            by_cases c5 : tc i = 50
            · rw [if_pos c5]
              have e7 : (712 : Int32) + gi (si τ 0 37 (gi τ 0 37 + 1)) 0 37 - 1 = zI ((712 + i : Nat) : Int) := by
                rw [s1.1, show (712 : Int32) = zI 712 from rfl, show (1 : Int32) = zI 1 from rfl, zI_add, zI_sub]
                congr 1
                omega
              have k7 : (ck (zI ((712 + i : Nat) : Int)) 1112 = true) = True := zI_ckT (by omega) (by omega) (by omega)
              have z7 : (zI ((712 + i : Nat) : Int)).toNatClampNeg = 712 + i := by rw [zI_clamp (by omega) (by omega)]; omega
              simp only [e7, k7, z7, if_true]
              rw [(s1.2.2.1 i hlt).2, zI_long (by omega) (by omega)]
              rw [if_pos c5] at q1
              refine done _ (fun x hx => ?_) (by rw [← q1]; simp [numE])
              rw [← q1] at hx
              have : tv i = x := by simpa [numE] using hx
              rw [this]
            · rw [if_neg c5]
              have e8 : zI (tc i) - 8 = zI (tc i - 8) := by rw [show (8 : Int32) = zI 8 from rfl, zI_sub]
              have k8 : (ck (zI (tc i - 8)) 5 = true) = True := zI_ckT (by omega) (by omega) (by omega)
              have z8 : (zI (tc i - 8)).toNatClampNeg = (tc i - 8).toNat := zI_clamp (by omega) (by omega)
              simp only [e8, k8, z8, if_true]
              have es := h.2.2.2.2 (tc i - 8).toNat (by omega)
              unfold smE at es
              rw [s1.2.2.2.1 (tc i - 8).toNat (by omega), zI_long (by omega) (by omega)]
              rw [if_neg c5] at q1
              refine done _ (fun x hx => ?_) (by rw [← q1]; simp [wrdE])
              rw [← q1] at hx
              have : e (tc i - 8).toNat = x := by simpa [wrdE] using hx
              rw [this]
          · rw [if_neg b0]
            refine Ho_some ⟨s1, s2, fun _ z => absurd z b0, fun _ => s3⟩
    · rw [if_neg c2] at hp; simp at hp
/-- an operation of a term -/
theorem v_op {N : Nat} {rs : Int32 → qMem → Option (Int64 × qMem)} {c6 : Int32 → Int64 → qMem → Option (Int64 × qMem)} {i : Nat} {live times : Bool} {τ0 τ1 τ2 : qMem} {fa fb : Option Int} {v w : Int64} {Q : Int64 × qMem → Prop} (sa : smO fa) (sb : smO fb) (ra : rv live τ0 τ1 fa v) (rb : rv live τ1 τ2 fb w) (he : Ev tc tv n e i τ2)
    (hQ : ∀ t v', Ev tc tv n e i t → frG τ2 t → rv live τ0 t (fa.bind fun x => fb.bind fun y => opS (if times then 4 else 5) x y) v' → Ho (c6 (bI live) v' t) Q) :
    Ho (if bI times = 0 then (if (lg_cmp w 0) = 0 then (if (gi τ2 0 39) = 0 then (if bI live = 0 then (fX12_termOf_b107 N rs c6 (bI live) v (bI times) 0 τ2) else (fX12_termOf_b102 N rs c6 (bI live) v (bI times) τ2)) else (fX12_termOf_b102 N rs c6 (bI live) v (bI times) τ2)) else (fX12_termOf_b113 N rs c6 (bI live) v (bI times) w τ2)) else (fX12_termOf_b113 N rs c6 (bI live) v (bI times) w τ2)) Q := by
  rcases join_rv (o := if times then 4 else 5) ra rb he with ⟨hd, fin⟩ | ⟨hl, h39, x, y, hx, hy, hv, hw, fin⟩
  · -- nothing counts
    have b130 : ∀ u t, Ev tc tv n e i t → frG τ2 t → gi t 0 39 = gi τ2 0 39 → Ho (fX12_termOf_b130 N rs c6 (bI live) u t) Q := fun u t h1 h2 h3 => by
      unfold fX12_termOf_b130
      refine Ho_bind (bnd_dead (u := u) h1 (by rw [h3]; exact hd)) (fun y ⟨y1, y2, y3⟩ => ?_)
      exact hQ y.2 y.1 y1 (frG_trans h2 y2) (fin _ _ (y3.trans h3))
    have b113 : ∀ u t, u ≠ 0 → Ev tc tv n e i t → frG τ2 t → gi t 0 39 = gi τ2 0 39 → Ho (fX12_termOf_b113 N rs c6 (bI live) v (bI times) u t) Q := fun u t hu h1 h2 h3 => by
      unfold fX12_termOf_b113
      by_cases qt : bI times = 0
      · rw [if_pos qt, if_neg hu]; exact b130 _ t h1 h2 h3
      · rw [if_neg qt]; exact b130 _ t h1 h2 h3
    have b107 : ∀ u1 : Int32, (u1 = 0 ∨ u1 = 1) → u1 = gi τ2 0 39 → Ho (fX12_termOf_b107 N rs c6 (bI live) v (bI times) u1 τ2) Q := fun u1 hu h3 => by
      unfold fX12_termOf_b107
      rw [if_pos hu]
      simp only [nmM]
      obtain ⟨a, b, c⟩ := Ev_39 (x := u1) he hu
      exact b113 1 _ (by decide) a b (c.trans h3)
    by_cases qt : bI times = 0
    · rw [if_pos qt]
      by_cases qw : lg_cmp w 0 = 0
      · rw [if_pos qw]
        by_cases q9 : gi τ2 0 39 = 0
        · rw [if_pos q9]
          have hl : live = false := by
            rcases hd with z | z
            · exact z
            · exact absurd q9 z
          subst hl
          rw [if_pos (show bI false = 0 from rfl)]
          exact b107 0 (Or.inl rfl) q9.symm
        · rw [if_neg q9]
          have : gi τ2 0 39 = 1 := by
            rcases he.2.2.2.2 with z | z
            · exact absurd z q9
            · exact z
          exact b107 1 (Or.inr rfl) this.symm
      · rw [if_neg qw]
        exact b113 w τ2 (fun z => qw ((lg_cmp_eq _ _).mpr z)) he (frG_refl τ2) rfl
    · rw [if_neg qt]
      unfold fX12_termOf_b113
      rw [if_neg qt]
      exact b130 _ τ2 he (frG_refl τ2) rfl
  · subst hl
    have sx := sa x hx
    have sy := sb y hy
    have sx' := sx
    have sy' := sy
    unfold smE at sx' sy'
    subst hv hw
    have ly : (lg_cmp (zL y) 0 = 0) = (y = 0) := by rw [show (0 : Int64) = zL 0 from rfl]; exact propext ((lg_cmp_eq _ _).trans (by rw [zL_eq (by omega) (by omega) (by omega) (by omega)]))
    have b130 : ∀ r : Int, (-1000000000000000000 ≤ r ∧ r ≤ 1000000000000000000) → (∀ z, opS (if times then 4 else 5) x y = some z → smE r ∧ z = r) → (opS (if times then 4 else 5) x y = none → ¬ smE r) → Ho (fX12_termOf_b130 N rs c6 (bI true) (zL r) τ2) Q := fun r hr k1 k2 => by
      unfold fX12_termOf_b130
      refine Ho_bind (bnd_live he h39 hr) (fun z ⟨y1, y2, y3, y4⟩ => ?_)
      refine hQ z.2 z.1 y1 y2 (fin _ _ (fun r' hr' => ?_) (fun hn' => y4 (k2 hn')))
      obtain ⟨m1, m2⟩ := k1 r' hr'
      rw [m2]
      exact y3 m1
    have opE : ∀ r, opR (if times then 4 else 5) x y = r → (∀ z, opS (if times then 4 else 5) x y = some z → smE r ∧ z = r) ∧ (opS (if times then 4 else 5) x y = none → ¬ smE r) := fun r hr => by
      unfold opS
      rw [hr]
      unfold smE
      by_cases q : -1000000000 ≤ r ∧ r ≤ 1000000000
      · rw [if_pos q]
        exact ⟨fun z hz => ⟨q, by simpa using hz.symm⟩, fun z => by simp at z⟩
      · rw [if_neg q]
        exact ⟨fun z hz => by simp at hz, fun _ => q⟩
    cases times with
    | true =>
      rw [if_neg (show ¬ bI true = 0 from n10)]
      unfold fX12_termOf_b113
      rw [if_neg (show ¬ bI true = 0 from n10), zL_mul]
      obtain ⟨k1, k2⟩ := opE (x * y) (by unfold opR; simp)
      exact b130 _ (mul_sm sx sy) k1 k2
    | false =>
      rw [if_pos (show bI false = 0 from rfl)]
      simp only [ly]
      by_cases z : y = 0
      · rw [if_pos z, if_pos h39, if_neg (show ¬ bI true = 0 from n10)]
        unfold fX12_termOf_b102 fX12_termOf_b107
        rw [if_pos (Or.inr rfl)]
        simp only [nmM]
        unfold fX12_termOf_b113
        rw [if_pos (show bI false = 0 from rfl), if_neg (by decide)]
        unfold fX12_termOf_b130
        obtain ⟨a, b, c⟩ := Ev_39 (x := 1) he (Or.inr rfl)
        refine Ho_bind (bnd_dead (live := true) (u := zL x / 1) a (Or.inr (by rw [c]; decide))) (fun w ⟨y1, y2, y3⟩ => ?_)
        refine hQ w.2 w.1 y1 (frG_trans b y2) (fin _ _ (fun r' hr' => ?_) (fun _ => by rw [y3, c]))
        exfalso
        have : opS (if false = true then 4 else 5) x y = none := by
          unfold opS opR
          rw [z]
          simp
        rw [this] at hr'
        simp at hr'
      · rw [if_neg z]
        unfold fX12_termOf_b113
        have yz : ¬ zL y = 0 := by rw [show (0 : Int64) = zL 0 from rfl, zL_eq (by omega) (by omega) (by omega) (by omega)]; exact z
        rw [if_pos (show bI false = 0 from rfl), if_neg yz, zL_div (by omega) (by omega) (by omega) (by omega)]
        have t := tdiv_sm sx z
        obtain ⟨k1, k2⟩ := opE (x.tdiv y) (by unfold opR; simp [z])
        unfold smE at t
        exact b130 _ (by omega) k1 k2
theorem v_opS {N : Nat} {rs : Int32 → qMem → Option (Int64 × qMem)} {c6 : Int32 → Int64 → qMem → Option (Int64 × qMem)} {i : Nat} {live plus : Bool} {τ0 τ1 τ2 : qMem} {fa fb : Option Int} {v w : Int64} {Q : Int64 × qMem → Prop} (sa : smO fa) (sb : smO fb) (ra : rv live τ0 τ1 fa v) (rb : rv live τ1 τ2 fb w) (he : Ev tc tv n e i τ2)
    (hQ : ∀ t v', Ev tc tv n e i t → frG τ2 t → rv live τ0 t (fa.bind fun x => fb.bind fun y => opS (if plus then 2 else 3) x y) v' → Ho (c6 (bI live) v' t) Q) :
    Ho (if bI plus = 0 then (fX12_sumOf_b95 N rs c6 (bI live) (v - w) τ2) else (fX12_sumOf_b95 N rs c6 (bI live) (v + w) τ2)) Q := by
  unfold fX12_sumOf_b95
  rcases join_rv (o := if plus then 2 else 3) ra rb he with ⟨hd, fin⟩ | ⟨hl, h39, x, y, hx, hy, hv, hw, fin⟩
  · have key : ∀ u, Ho ((fX12_bounded u (bI live) τ2).bind fun y10 => c6 (bI live) y10.1 y10.2) Q := fun u =>
      Ho_bind (bnd_dead (u := u) he hd) (fun y ⟨y1, y2, y3⟩ => hQ y.2 y.1 y1 y2 (fin _ _ y3))
    split
    · exact key _
    · exact key _
  · subst hl
    have sx := sa x hx
    have sy := sb y hy
    unfold smE at sx sy
    subst hv hw
    have key : ∀ r : Int, (-1000000000000000000 ≤ r ∧ r ≤ 1000000000000000000) → opR (if plus then 2 else 3) x y = r → Ho ((fX12_bounded (zL r) (bI true) τ2).bind fun y10 => c6 (bI true) y10.1 y10.2) Q := fun r hr ho => by
      refine Ho_bind (bnd_live he h39 hr) (fun z ⟨y1, y2, y3, y4⟩ => hQ z.2 z.1 y1 y2 (fin _ _ (fun r' hr' => ?_) (fun hn' => ?_)))
      · unfold opS at hr'
        rw [ho] at hr'
        by_cases q : -1000000000 ≤ r ∧ r ≤ 1000000000
        · rw [if_pos q] at hr'
          have : r = r' := by simpa using hr'
          rw [← this]
          exact y3 q
        · rw [if_neg q] at hr'; simp at hr'
      · unfold opS at hn'
        rw [ho] at hn'
        by_cases q : -1000000000 ≤ r ∧ r ≤ 1000000000
        · rw [if_pos q] at hn'; simp at hn'
        · exact y4 q
    cases plus with
    | true => rw [if_neg (show ¬ bI true = 0 from n10), zL_add]; exact key _ (by omega) (by unfold opR; simp)
    | false => rw [if_pos (show bI false = 0 from rfl), zL_sub]; exact key _ (by omega) (by unfold opR; simp)
theorem v_termL {N : Nat} {rs : Int32 → qMem → Option (Int64 × qMem)} {P : Nat → Nat → Except Nat (EE × Nat × Nat)} (h : okK tc tv n e) (hP : RvE tc tv n e (fX12_partOf N rs) (pPart tc tv P)) : ∀ (f nf : Nat) (a : EE) (i l : Nat) (b : EE) (j l' : Nat), pTermL tc tv P f a i l = .ok (b, j, l') → i ≤ n → n < nf + i → smO (a.2 e) → ∀ live τ0 τ v, Ev tc tv n e i τ → rv live τ0 τ (a.2 e) v → Ho (fX12_termOf_l6 N rs nf (bI live) v τ) (opQ tc tv n e j live τ0 τ (b.2 e)) ∧ smO (b.2 e) ∧ j ≤ n ∧ i ≤ j := by
  have hn := h.1
  have h0 : ∀ x, tc x ≠ 0 → x < n := fun x hx => by
    by_cases q : x < n
    · exact q
    · exact absurd (h.2.2.1 x (by omega)) hx
  intro f
  induction f with
  | zero => intro nf a i l b j l' hp; unfold pTermL at hp; simp at hp
  | succ f ih =>
    intro nf a i l b j l' hp hin hnf sa live τ0 τ v he ra
    obtain ⟨nf, rfl⟩ : ∃ k, nf = k + 1 := ⟨nf - 1, by omega⟩
    have r := tc_rK h i
    have cA := r_codeAt h he (by omega)
    have c1 : (zI (tc i) = 100 + 42) = (tc i = 142) := by rw [show (100 + 42 : Int32) = zI 142 from rfl, zI_eq r.1 r.2 (by omega) (by omega)]
    have c2 : (zI (tc i) = 100 + 47) = (tc i = 147) := by rw [show (100 + 47 : Int32) = zI 147 from rfl, zI_eq r.1 r.2 (by omega) (by omega)]
    have ef : fX12_termOf_l6 N rs (nf + 1) (bI live) v τ = if tc i = 142 ∨ tc i = 147 then fX12_termOf_b59 N rs (fX12_termOf_l6 N rs nf) (bI live) v (bI (decide (tc i = 142))) τ else some (v, τ) := by
      show fX12_termOf_s6 N rs _ (bI live) v τ = _
      unfold fX12_termOf_s6 fX12_termOf_b38 fX12_sign
      simp only [cA, Option.bind_some, c1, c2]
      by_cases q1 : tc i = 142
      · rw [if_pos q1, if_pos q1, if_pos (Or.inl q1), decide_eq_true q1]; rfl
      · rw [if_neg q1]
        by_cases q2 : tc i = 147
        · rw [if_pos q2, if_neg q1, if_pos (Or.inr q2), decide_eq_false q1]; rfl
        · rw [if_neg q2, if_neg (by omega)]
    rw [ef]
    unfold pTermL at hp
    by_cases q : tc i = 142 ∨ tc i = 147
    · rw [if_pos q] at hp
      rw [if_pos q]
      obtain ⟨b1, j1, l1, e1, e2⟩ := bd_ok hp
      obtain ⟨s1, s2, s3⟩ := Ev_step he
      obtain ⟨H, sb, jn, ij⟩ := hP (i + 1) l b1 j1 l1 e1 (h0 i (by omega)) live _ s1
      have eo : (if tc i = 142 then (4 : Int) else 5) = if decide (tc i = 142) = true then 4 else 5 := by
        by_cases q1 : tc i = 142
        · rw [if_pos q1, if_pos (decide_eq_true q1)]
        · rw [if_neg q1, if_neg (by rw [decide_eq_false q1]; decide)]
      have rest := fun t v' (h1 : Ev tc tv n e j1 t) (h3 : rv live τ0 t ((binE (if tc i = 142 then 4 else 5) a b1).2 e) v') => ih nf _ j1 l1 b j l' e2 jn (by omega) bin_sm live τ0 t v' h1 h3
      refine ⟨?_, ?_⟩
      · unfold fX12_termOf_b59
        simp only [nmM]
        refine Ho_bind H (fun y ⟨y1, y2, y3⟩ => ?_)
        refine v_op (τ0 := τ0) (τ1 := si τ 0 37 (gi τ 0 37 + 1)) sa sb ?_ y3 y1 (fun t v' h1 h2 h3 => ?_)
        · unfold rv at ra ⊢
          rw [s3]
          exact ra
        · rw [← eo] at h3
          refine Ho_mono (rest t v' h1 h3).1 (fun z ⟨z1, z2, z3⟩ => ⟨z1, ?_, z3⟩)
          exact frG_trans s2 (frG_trans y2 (frG_trans h2 z2))
      · -- the rest does not hang on the state
        have dummy := fun (t : qMem) => True
        obtain ⟨y, ey, y1, y2, y3⟩ := Ho_get H
        have hop : ∃ t v', Ev tc tv n e j1 t ∧ rv live τ0 t ((binE (if tc i = 142 then 4 else 5) a b1).2 e) v' := by
          rcases join_rv (o := if tc i = 142 then 4 else 5) (τ0 := τ0) (τ1 := si τ 0 37 (gi τ 0 37 + 1)) (fa := a.2 e) (v := v) (by unfold rv at ra ⊢; rw [s3]; exact ra) y3 y1 with ⟨hd, fin⟩ | ⟨hl, h39, x, w, hx, hy, hv, hw, fin⟩
          · exact ⟨y.2, y.1, y1, fin _ _ rfl⟩
          · cases ho : opS (if tc i = 142 then 4 else 5) x w with
            | some z =>
              refine ⟨y.2, zL z, y1, fin _ _ (fun r hr => ?_) (fun z => by rw [ho] at z; simp at z)⟩
              rw [ho] at hr
              have : z = r := by simpa using hr
              rw [this]
              exact ⟨rfl, h39⟩
            | none =>
              obtain ⟨u1, u2, u3⟩ := Ev_39 (x := 1) y1 (Or.inr rfl)
              exact ⟨_, y.1, u1, fin _ _ (fun r hr => by rw [ho] at hr; simp at hr) (fun _ => u3)⟩
        obtain ⟨t, v', h1, h3⟩ := hop
        obtain ⟨_, r1, r2, r3⟩ := rest t v' h1 h3
        exact ⟨r1, r2, by omega⟩
    · rw [if_neg q] at hp
      rw [if_neg q]
      simp only [Except.ok.injEq, Prod.mk.injEq] at hp
      obtain ⟨q1, q2, q3⟩ := hp
      subst q1 q2
      exact ⟨Ho_some ⟨he, frG_refl τ, ra⟩, sa, hin, by omega⟩
theorem v_term {N : Nat} {rs : Int32 → qMem → Option (Int64 × qMem)} {P : Nat → Nat → Except Nat (EE × Nat × Nat)} (hN : 200000 ≤ N) (h : okK tc tv n e) (hP : RvE tc tv n e (fX12_partOf N rs) (pPart tc tv P)) : RvE tc tv n e (fX12_termOf N rs) (pTerm tc tv P) := by
  have hn := h.1
  intro i l a j l' hp hin live τ he
  obtain ⟨b1, j1, l1, e1, e2⟩ := bd_ok hp
  obtain ⟨H, sb, jn, ij⟩ := hP i l b1 j1 l1 e1 hin live τ he
  obtain ⟨y, ey, y1, y2, y3⟩ := Ho_get H
  obtain ⟨H2, s2, jn2, ij2⟩ := v_termL h hP 500 N b1 j1 l1 a j l' e2 jn (by omega) sb live τ y.2 y.1 y1 y3
  refine ⟨?_, s2, jn2, by omega⟩
  unfold fX12_termOf
  rw [ey, Option.bind_some]
  exact Ho_mono H2 (fun z ⟨z1, z2, z3⟩ => ⟨z1, frG_trans y2 z2, z3⟩)
theorem v_sumL {N : Nat} {rs : Int32 → qMem → Option (Int64 × qMem)} {P : Nat → Nat → Except Nat (EE × Nat × Nat)} (h : okK tc tv n e) (hP : RvE tc tv n e (fX12_termOf N rs) (pTerm tc tv P)) : ∀ (f nf : Nat) (a : EE) (i l : Nat) (b : EE) (j l' : Nat), pSumL tc tv P f a i l = .ok (b, j, l') → i ≤ n → n < nf + i → smO (a.2 e) → ∀ live τ0 τ v, Ev tc tv n e i τ → rv live τ0 τ (a.2 e) v → Ho (fX12_sumOf_l6 N rs nf (bI live) v τ) (opQ tc tv n e j live τ0 τ (b.2 e)) ∧ smO (b.2 e) ∧ j ≤ n ∧ i ≤ j := by
  have hn := h.1
  have h0 : ∀ x, tc x ≠ 0 → x < n := fun x hx => by
    by_cases q : x < n
    · exact q
    · exact absurd (h.2.2.1 x (by omega)) hx
  intro f
  induction f with
  | zero => intro nf a i l b j l' hp; unfold pSumL at hp; simp at hp
  | succ f ih =>
    intro nf a i l b j l' hp hin hnf sa live τ0 τ v he ra
    obtain ⟨nf, rfl⟩ : ∃ k, nf = k + 1 := ⟨nf - 1, by omega⟩
    have r := tc_rK h i
    have cA := r_codeAt h he (by omega)
    have c1 : (zI (tc i) = 100 + 43) = (tc i = 143) := by rw [show (100 + 43 : Int32) = zI 143 from rfl, zI_eq r.1 r.2 (by omega) (by omega)]
    have c2 : (zI (tc i) = 100 + 45) = (tc i = 145) := by rw [show (100 + 45 : Int32) = zI 145 from rfl, zI_eq r.1 r.2 (by omega) (by omega)]
    have ef : fX12_sumOf_l6 N rs (nf + 1) (bI live) v τ = if tc i = 143 ∨ tc i = 145 then fX12_sumOf_b59 N rs (fX12_sumOf_l6 N rs nf) (bI live) v (bI (decide (tc i = 143))) τ else some (v, τ) := by
      show fX12_sumOf_s6 N rs _ (bI live) v τ = _
      unfold fX12_sumOf_s6 fX12_sumOf_b38 fX12_sign
      simp only [cA, Option.bind_some, c1, c2]
      by_cases q1 : tc i = 143
      · rw [if_pos q1, if_pos q1, if_pos (Or.inl q1), decide_eq_true q1]; rfl
      · rw [if_neg q1]
        by_cases q2 : tc i = 145
        · rw [if_pos q2, if_neg q1, if_pos (Or.inr q2), decide_eq_false q1]; rfl
        · rw [if_neg q2, if_neg (by omega)]
    rw [ef]
    unfold pSumL at hp
    by_cases q : tc i = 143 ∨ tc i = 145
    · rw [if_pos q] at hp
      rw [if_pos q]
      obtain ⟨b1, j1, l1, e1, e2⟩ := bd_ok hp
      obtain ⟨s1, s2, s3⟩ := Ev_step he
      obtain ⟨H, sb, jn, ij⟩ := hP (i + 1) l b1 j1 l1 e1 (h0 i (by omega)) live _ s1
      have eo : (if tc i = 143 then (2 : Int) else 3) = if decide (tc i = 143) = true then 2 else 3 := by
        by_cases q1 : tc i = 143
        · rw [if_pos q1, if_pos (decide_eq_true q1)]
        · rw [if_neg q1, if_neg (by rw [decide_eq_false q1]; decide)]
      have rest := fun t v' (h1 : Ev tc tv n e j1 t) (h3 : rv live τ0 t ((binE (if tc i = 143 then 2 else 3) a b1).2 e) v') => ih nf _ j1 l1 b j l' e2 jn (by omega) bin_sm live τ0 t v' h1 h3
      refine ⟨?_, ?_⟩
      · unfold fX12_sumOf_b59
        simp only [nmM]
        refine Ho_bind H (fun y ⟨y1, y2, y3⟩ => ?_)
        refine v_opS (τ0 := τ0) (τ1 := si τ 0 37 (gi τ 0 37 + 1)) sa sb ?_ y3 y1 (fun t v' h1 h2 h3 => ?_)
        · unfold rv at ra ⊢
          rw [s3]
          exact ra
        · rw [← eo] at h3
          refine Ho_mono (rest t v' h1 h3).1 (fun z ⟨z1, z2, z3⟩ => ⟨z1, ?_, z3⟩)
          exact frG_trans s2 (frG_trans y2 (frG_trans h2 z2))
      · -- the rest does not hang on the state
        have dummy := fun (t : qMem) => True
        obtain ⟨y, ey, y1, y2, y3⟩ := Ho_get H
        have hop : ∃ t v', Ev tc tv n e j1 t ∧ rv live τ0 t ((binE (if tc i = 143 then 2 else 3) a b1).2 e) v' := by
          rcases join_rv (o := if tc i = 143 then 2 else 3) (τ0 := τ0) (τ1 := si τ 0 37 (gi τ 0 37 + 1)) (fa := a.2 e) (v := v) (by unfold rv at ra ⊢; rw [s3]; exact ra) y3 y1 with ⟨hd, fin⟩ | ⟨hl, h39, x, w, hx, hy, hv, hw, fin⟩
          · exact ⟨y.2, y.1, y1, fin _ _ rfl⟩
          · cases ho : opS (if tc i = 143 then 2 else 3) x w with
            | some z =>
              refine ⟨y.2, zL z, y1, fin _ _ (fun r hr => ?_) (fun z => by rw [ho] at z; simp at z)⟩
              rw [ho] at hr
              have : z = r := by simpa using hr
              rw [this]
              exact ⟨rfl, h39⟩
            | none =>
              obtain ⟨u1, u2, u3⟩ := Ev_39 (x := 1) y1 (Or.inr rfl)
              exact ⟨_, y.1, u1, fin _ _ (fun r hr => by rw [ho] at hr; simp at hr) (fun _ => u3)⟩
        obtain ⟨t, v', h1, h3⟩ := hop
        obtain ⟨_, r1, r2, r3⟩ := rest t v' h1 h3
        exact ⟨r1, r2, by omega⟩
    · rw [if_neg q] at hp
      rw [if_neg q]
      simp only [Except.ok.injEq, Prod.mk.injEq] at hp
      obtain ⟨q1, q2, q3⟩ := hp
      subst q1 q2
      exact ⟨Ho_some ⟨he, frG_refl τ, ra⟩, sa, hin, by omega⟩
theorem v_sum {N : Nat} {rs : Int32 → qMem → Option (Int64 × qMem)} {P : Nat → Nat → Except Nat (EE × Nat × Nat)} (hN : 200000 ≤ N) (h : okK tc tv n e) (hP : RvE tc tv n e (fX12_termOf N rs) (pTerm tc tv P)) : RvE tc tv n e (fX12_sumOf_e N rs) (pSum tc tv P) := by
  have hn := h.1
  intro i l a j l' hp hin live τ he
  obtain ⟨b1, j1, l1, e1, e2⟩ := bd_ok hp
  obtain ⟨H, sb, jn, ij⟩ := hP i l b1 j1 l1 e1 hin live τ he
  obtain ⟨y, ey, y1, y2, y3⟩ := Ho_get H
  obtain ⟨H2, s2, jn2, ij2⟩ := v_sumL h hP 500 N b1 j1 l1 a j l' e2 jn (by omega) sb live τ y.2 y.1 y1 y3
  refine ⟨?_, s2, jn2, by omega⟩
  unfold fX12_sumOf_e
  rw [ey, Option.bind_some]
  exact Ho_mono H2 (fun z ⟨z1, z2, z3⟩ => ⟨z1, frG_trans y2 z2, z3⟩)
theorem v_sums {N : Nat} (hN : 200000 ≤ N) (h : okK tc tv n e) : ∀ (d D : Nat), d < D → RvE tc tv n e (fX12_sumOf N D) (pSum tc tv (pIn tc tv d)) := by
  intro d
  induction d with
  | zero =>
    intro D hD
    obtain ⟨D, rfl⟩ : ∃ k, D = k + 1 := ⟨D - 1, by omega⟩
    exact v_sum hN h (v_term hN h (v_part h (fun d' hd' => by omega)))
  | succ d ih =>
    intro D hD
    obtain ⟨D, rfl⟩ : ∃ k, D = k + 1 := ⟨D - 1, by omega⟩
    refine v_sum hN h (v_term hN h (v_part h (fun d' hd' => ?_)))
    have : d' = d := by omega
    subst this
    exact ih D (by omega)
end EV
