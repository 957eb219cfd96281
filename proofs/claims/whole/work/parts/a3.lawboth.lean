/-! law -/
def tcK (κ : Nat → Int32) (i : Nat) : Int := if (i : Int) < kI κ 306 then kI κ (312 + i) else 0
def tvK (κ : Nat → Int32) (i : Nat) : Int := if (i : Int) < kI κ 306 then kI κ (712 + i) else 0
/-- the class's law and the reference's say the same -/
def LWd : LWt := fun m B κ => ∃ cl : List CL, m (B + 34) 5 = zI (lawC 0 cl).length ∧ (lawC 0 cl).length ≤ 400 ∧ cl.length ≤ 12 ∧ cdOK m (B + 34) (lawC 0 cl) ∧ rwOK m (B + 34) (lawR 0 cl) ∧ (0 ≤ kI κ 306 ∧ kI κ 306 ≤ 400) ∧ (∀ i, 0 ≤ tvK κ i) ∧ ((cl = [] ∧ kI κ 306 = 0) ∨ rdC (tcK κ) (tvK κ) cl 0 (kI κ 306).toNat)
theorem getElem_lt {α : Type} {l : List α} {k : Nat} {x : α} (h : l[k]? = some x) : k < l.length := by
  by_cases q : k < l.length
  · exact q
  · rw [List.getElem?_eq_none (by omega)] at h; simp at h
theorem LWd_c : LWc LWd := by
  intro m m' B B' κ κ' hm hκ ⟨cl, h1, h2, h3, h4, h5, h6, h7, h8⟩
  obtain ⟨e1, e2, e3, e4, e5⟩ := hm
  have n : kI κ' 306 = kI κ 306 := kI_e (hκ 306 (by omega) (by omega))
  have tc : tcK κ' = tcK κ := by
    funext i
    unfold tcK
    rw [n]
    by_cases q : (i : Int) < kI κ 306
    · rw [if_pos q, if_pos q]; exact kI_e (hκ _ (by omega) (by omega))
    · rw [if_neg q, if_neg q]
  have tv : tvK κ' = tvK κ := by
    funext i
    unfold tvK
    rw [n]
    by_cases q : (i : Int) < kI κ 306
    · rw [if_pos q, if_pos q]; exact kI_e (hκ _ (by omega) (by omega))
    · rw [if_neg q, if_neg q]
  refine ⟨cl, e1.trans h1, h2, h3, fun k x hk => ?_, ⟨e2.trans h5.1, fun k x hk => ?_⟩, by rw [n]; exact h6, by rw [tv]; exact h7, by rw [tc, tv, n]; exact h8⟩
  · have := getElem_lt hk
    exact ⟨(e4 k (by omega)).trans (h4 k x hk).1, (e5 k (by omega)).trans (h4 k x hk).2⟩
  · have := getElem_lt hk
    rw [lawR_len] at this
    obtain ⟨a, b, c, d⟩ := h5.2 k x hk
    exact ⟨(e3 _ (by omega)).trans a, (e3 _ (by omega)).trans b, (e3 _ (by omega)).trans c, (e3 _ (by omega)).trans d⟩
theorem rdC_le {tc tv : Nat → Int} {n : Nat} (h0 : ∀ x, tc x ≠ 0 → x < n) : ∀ (a : List CL) (i j : Nat), rdC tc tv a i j → j ≤ n := by
  have one : ∀ {i l : Nat} {c : CL} {j l' : Nat}, pClause tc tv i l = .ok (c, j, l') → j ≤ n := by
    intro i l c j l' h
    unfold pClause at h
    by_cases c0 : 1 ≤ tc i ∧ tc i ≤ 3
    · rw [if_pos c0] at h
      obtain ⟨b1, j1, l1, e1, e2⟩ := bd_ok h
      have s := (adv_sum h0 (adv_in h0 8) _ _ _ _ _ e1).2.1 (h0 i (by omega))
      by_cases c : tc j1 = 4
      · rw [if_pos c] at e2
        obtain ⟨b2, j2, l2, e3, e4⟩ := bd_ok e2
        have t := (adv_test h0 (adv_in h0 8) (adv_inT h0 8) _ _ _ _ _ e3).2.1 (h0 j1 (by omega))
        simp only [Except.ok.injEq, Prod.mk.injEq] at e4
        omega
      · rw [if_neg c] at e2
        simp only [Except.ok.injEq, Prod.mk.injEq] at e2
        omega
    · rw [if_neg c0] at h; simp at h
  intro a
  induction a with
  | nil => intro i j h; exact h.elim
  | cons c cs ih =>
    intro i j h
    cases cs with
    | nil =>
      obtain ⟨l, l', e⟩ := h
      exact one e
    | cons d ds =>
      obtain ⟨l, k, l', e, e59, r⟩ := h
      exact ih _ _ r
theorem Inv_law {LW : LWt} {c : Nat} {σ τ σ' τ' : qMem} (hLW : LWc LW) (h : Inv LW c σ τ) (oσ : ∀ k j, ¬ ((k = 0 ∧ (j = 10 ∨ j = 11)) ∨ (77 ≤ k ∧ k ≤ 82 ∧ ¬ (k = 79 ∧ j ≤ 1))) → gi σ' k j = gi σ k j) (oτ : ∀ k j, ¬ ((k = 0 ∧ (j = 28 ∨ j = 29 ∨ (33 ≤ j ∧ j ≤ 36))) ∨ k = 20 ∨ k = 21 ∨ k = 22) → gi τ' k j = gi τ k j) (ht : tapeR σ' τ') (hT : gi σ' 0 11 = gi τ' 0 29) : Inv LW c σ' τ' := by
  obtain ⟨v, s1, s2, s3, s4, b1, k1, l1, im, tp, ms, rf, cc, rc, wo⟩ := h
  have eκ : τ'.1 2 = τ.1 2 := funext fun j => oτ 2 j (by omega)
  have e3 : ∀ k, imK τ'.1 k = imK τ.1 k := fun k => funext fun j => oτ 3 _ (by omega)
  refine ⟨?_, ?_, ?_, ?_, ?_, ?_, ?_, ?_, fun k hk2 => ?_, ht, ?_, ?_, ?_, ?_, ?_⟩
  · rw [oτ 0 2 (by omega)]; omega
  · rw [bookS_d (m := σ.1) (m' := σ'.1) (fun k j q1 q2 => oσ k j (by omega))]; exact s1
  · rw [bookS_d (m := σ.1) (m' := σ'.1) (fun k j q1 q2 => oσ k j (by omega))]; exact s2
  · rw [bookS_d (m := σ.1) (m' := σ'.1) (fun k j q1 q2 => oσ k j (by omega))]; exact s3
  · exact ⟨(oσ 79 0 (by omega)).trans s4.1, (oσ 79 1 (by omega)).trans s4.2⟩
  · rw [eκ, bookK_c (m := σ.1) (m' := σ'.1) (fun k j q1 q2 q3 q4 => oσ k j (by omega))]; exact b1
  · rw [eκ]; exact k1
  · rw [eκ]; exact hLW _ _ _ _ _ _ (lawE_c (fun k j h1 h2 _ => oσ k j (by omega))) (fun _ _ _ => rfl) l1
  · have := im k hk2
    rw [oσ 43 k (by omega), oτ 4 k (by omega), e3]
    refine ⟨this.1, fun z => ?_⟩
    obtain ⟨p, q, r⟩ := this.2 z
    refine ⟨?_, q, ?_⟩
    · rw [bookK_c (m := σ.1) (m' := σ'.1) (fun i j h1 h2 _ _ => oσ i j (by omega))]; exact p
    · exact hLW _ _ _ _ _ _ (lawE_c (fun i j h1 h2 _ => oσ i j (by omega))) (fun _ _ _ => rfl) r
  · rw [oσ 0 12 (by omega), oσ 0 13 (by omega), oτ 0 8 (by omega), oτ 0 0 (by omega)]
    exact ⟨hT, ms.2⟩
  · rw [oσ 87 0 (by omega), oσ 87 1 (by omega), oσ 87 2 (by omega), oσ 87 3 (by omega), oσ 87 4 (by omega), oτ 1 1 (by omega), oτ 1 2 (by omega), oτ 1 3 (by omega), oτ 1 5 (by omega), oτ 1 6 (by omega)]
    exact rf
  · rw [eκ]; exact CC_c (m := σ.1) (m' := σ'.1) (fun k j hh => oσ k j (by omega)) cc
  · rw [eκ]; exact RC_c (t := τ.1) (t' := τ'.1) (fun k j hh => oτ k j (by omega)) rc
  · intro j x hx
    rw [oτ 17 j (by omega)]
    exact wo j x hx
/-- the reference keeps a law's tokens -/
theorem r_keep {N : Nat} {τ t : qMem} {n : Nat} {tc tv : Nat → Int} (hN : 200000 ≤ N) (hn : n ≤ 400) (h33 : gi t 0 33 = zI n) (hk : ∀ q, q < n → gi t 20 q = zI (tc q) ∧ gi t 21 q = zI (tv q) ∧ 0 ≤ tc q ∧ tc q ≤ 355) :
    ∃ t', fX12_law_l37 N N 0 (si (si t 2 306 (zI n)) 2 307 1) = fX12_good (zI ((1 + ctS tc n : Nat) : Int)) t' ∧ gi t' 2 307 = zI ((1 + ctS tc n : Nat) : Int) ∧ gi t' 2 306 = zI n ∧ (∀ q, q < n → gi t' 2 (312 + q) = zI (tc q) ∧ gi t' 2 (712 + q) = zI (tv q)) ∧ ∀ k j, ¬ (k = 2 ∧ (j = 306 ∨ j = 307 ∨ 312 ≤ j)) → gi t' k j = gi t k j := by
  have ctle : ∀ m, ctS tc m ≤ m := fun m => by
    induction m with
    | zero => exact Nat.le_refl _
    | succ m ih => unfold ctS; split <;> omega
  have loop : ∀ (d i f : Nat) (s : qMem), i + d = n → d < f → gi s 2 307 = zI ((1 + ctS tc i : Nat) : Int) → gi s 2 306 = zI n → (∀ q, q < i → gi s 2 (312 + q) = zI (tc q) ∧ gi s 2 (712 + q) = zI (tv q)) → (∀ k j, ¬ (k = 2 ∧ (j = 306 ∨ j = 307 ∨ 312 ≤ j)) → gi s k j = gi t k j) →
      ∃ t', fX12_law_l37 N f (zI i) s = fX12_good (zI ((1 + ctS tc n : Nat) : Int)) t' ∧ gi t' 2 307 = zI ((1 + ctS tc n : Nat) : Int) ∧ gi t' 2 306 = zI n ∧ (∀ q, q < n → gi t' 2 (312 + q) = zI (tc q) ∧ gi t' 2 (712 + q) = zI (tv q)) ∧ ∀ k j, ¬ (k = 2 ∧ (j = 306 ∨ j = 307 ∨ 312 ≤ j)) → gi t' k j = gi t k j := by
    intro d
    induction d with
    | zero =>
      intro i f s hi hf a1 a2 a3 a4
      obtain ⟨f, rfl⟩ : ∃ k, f = k + 1 := ⟨f - 1, by omega⟩
      have : i = n := by omega
      subst this
      refine ⟨s, ?_, a1, a2, a3, a4⟩
      show fX12_law_s37 N _ (zI i) s = _
      unfold fX12_law_s37
      have c1 : (gi s 0 33 ≤ zI i) = True := by rw [a4 _ _ (by omega), h33, zI_le (by omega) (by omega) (by omega) (by omega)]; exact eq_true (by omega)
      simp only [c1, if_true]
      rw [if_pos (by decide), show (307 : Int32).toNatClampNeg = 307 from rfl, a1, eta2]
    | succ d ih =>
      intro i f s hi hf a1 a2 a3 a4
      obtain ⟨f, rfl⟩ : ∃ k, f = k + 1 := ⟨f - 1, by omega⟩
      obtain ⟨b1, b2, b3, b4⟩ := hk i (by omega)
      have g20 : gi s 20 i = zI (tc i) := by rw [a4 _ _ (by omega)]; exact b1
      have g21 : gi s 21 i = zI (tv i) := by rw [a4 _ _ (by omega)]; exact b2
      have c1 : (gi s 0 33 ≤ zI i) = False := by rw [a4 _ _ (by omega), h33, zI_le (by omega) (by omega) (by omega) (by omega)]; exact eq_false (by omega)
      have k1 : (ck (zI i) 401 = true) = True := zI_ckT (by omega) (by omega) (by omega)
      have z1 : (zI i).toNatClampNeg = i := by rw [zI_clamp (by omega) (by omega)]; omega
      have c2 : (zI (tc i) = 100 + 59) = (tc i = 159) := by rw [show (100 + 59 : Int32) = zI 159 from rfl, zI_eq (by omega) (by omega) (by omega) (by omega)]
      have e3 : (312 : Int32) + zI i = zI ((312 + i : Nat) : Int) := by rw [show (312 : Int32) = zI 312 from rfl, zI_add]; congr 1
      have e7 : (712 : Int32) + zI i = zI ((712 + i : Nat) : Int) := by rw [show (712 : Int32) = zI 712 from rfl, zI_add]; congr 1
      have k3 : (ck (zI ((312 + i : Nat) : Int)) 1112 = true) = True := zI_ckT (by omega) (by omega) (by omega)
      have z3 : (zI ((312 + i : Nat) : Int)).toNatClampNeg = 312 + i := by rw [zI_clamp (by omega) (by omega)]; omega
      have k7 : (ck (zI ((712 + i : Nat) : Int)) 1112 = true) = True := zI_ckT (by omega) (by omega) (by omega)
      have z7 : (zI ((712 + i : Nat) : Int)).toNatClampNeg = 712 + i := by rw [zI_clamp (by omega) (by omega)]; omega
      have nx : zI i + 1 = zI ((i + 1 : Nat) : Int) := by rw [show (1 : Int32) = zI 1 from rfl, zI_add]; rfl
      have cl := ctle i
      have step : ∀ u2 u3 : Int32, u2 + u3 = zI ((1 + ctS tc (i + 1) : Nat) : Int) → ∃ t', fX12_law_b73 N (fX12_law_l37 N f) (zI i) 307 u2 u3 s = fX12_good (zI ((1 + ctS tc n : Nat) : Int)) t' ∧ gi t' 2 307 = zI ((1 + ctS tc n : Nat) : Int) ∧ gi t' 2 306 = zI n ∧ (∀ q, q < n → gi t' 2 (312 + q) = zI (tc q) ∧ gi t' 2 (712 + q) = zI (tv q)) ∧ ∀ k j, ¬ (k = 2 ∧ (j = 306 ∨ j = 307 ∨ 312 ≤ j)) → gi t' k j = gi t k j := by
        intro u2 u3 hx
        unfold fX12_law_b73
        rw [if_pos (c := ck 307 1112 = true) (by decide), show (307 : Int32).toNatClampNeg = 307 from rfl, hx]
        generalize hx' : zI ((1 + ctS tc (i + 1) : Nat) : Int) = x at *
        simp only [nmM, k1, z1, e3, k3, z3, e7, k7, z7, if_true, nx]
        have w1 : gi (si s 2 307 x) 20 i = zI (tc i) := by rw [gi_si, if_neg (by omega)]; exact g20
        have w2 : gi (si (si s 2 307 x) 2 (312 + i) (zI (tc i))) 21 i = zI (tv i) := by rw [gi_si, if_neg (by omega), gi_si, if_neg (by omega)]; exact g21
        rw [w1, w2]
        refine ih (i + 1) f _ (by omega) (by omega) ?_ ?_ (fun q hq => ?_) (fun k j hkj => ?_)
        · rw [gi_si, if_neg (by omega), gi_si, if_neg (by omega), gi_si, if_pos ⟨rfl, rfl⟩]; exact hx'.symm
        · rw [gi_si, if_neg (by omega), gi_si, if_neg (by omega), gi_si, if_neg (by omega)]; exact a2
        · by_cases e : q = i
          · subst e
            exact ⟨by rw [gi_si, if_neg (by omega), gi_si, if_pos ⟨rfl, rfl⟩], by rw [gi_si, if_pos ⟨rfl, rfl⟩]⟩
          · obtain ⟨p1, p2⟩ := a3 q (by omega)
            exact ⟨by rw [gi_si, if_neg (by omega), gi_si, if_neg (by omega), gi_si, if_neg (by omega)]; exact p1, by rw [gi_si, if_neg (by omega), gi_si, if_neg (by omega), gi_si, if_neg (by omega)]; exact p2⟩
        · rw [gi_si, if_neg (by omega), gi_si, if_neg (by omega), gi_si, if_neg (by omega)]; exact a4 k j hkj
      show ∃ t', fX12_law_s37 N (fX12_law_l37 N f) (zI i) s = _ ∧ _
      unfold fX12_law_s37 fX12_sign
      rw [show (307 : Int32).toNatClampNeg = 307 from rfl]
      simp only [c1, if_false, k1, if_true, z1, g20, Option.bind_some, c2, a1]
      rw [if_pos (c := ck 307 1112 = true) (by decide)]
      by_cases q : tc i = 159
      · rw [if_pos q]
        refine step _ _ ?_
        rw [show (1 : Int32) = zI 1 from rfl, zI_add]
        congr 1
        show _ = ((1 + (ctS tc i + (if tc i = 159 then 1 else 0)) : Nat) : Int)
        rw [if_pos q]
        omega
      · rw [if_neg q]
        refine step _ _ ?_
        rw [show (0 : Int32) = zI 0 from rfl, zI_add]
        congr 1
        show _ = ((1 + (ctS tc i + (if tc i = 159 then 1 else 0)) : Nat) : Int)
        rw [if_neg q]
        omega
  refine loop n 0 N _ (by omega) (by omega) ?_ ?_ (fun q hq => by omega) (fun k j hkj => ?_)
  · rw [gi_si, if_pos ⟨rfl, rfl⟩]; rfl
  · rw [gi_si, if_neg (by omega), gi_si, if_pos ⟨rfl, rfl⟩]
  · rw [gi_si, if_neg (by omega), gi_si, if_neg (by omega)]
/-- a law is copied -/
theorem e_lawcopy {σ : qMem} {K K1 : Nat} (hK : K + 4 < K1) {s : Int} (w1 : gi σ (K + 1) 1 = 12) (hs : gi σ (K1 + 1) 3 = zI s) (s0 : 0 ≤ s) (s1 : s ≤ 12) :
    ∃ σ', fX5_copy K K1 σ = some σ' ∧ ∀ k j, gi σ' k j = if k = K ∧ j = 5 then gi σ K1 5 else if k = K + 4 ∧ j < 400 then gi σ (K1 + 4) j else if k = K + 3 ∧ j < 400 then gi σ (K1 + 3) j else if k = K + 1 ∧ j = 3 then zI s else if k = K + 2 ∧ j < 48 then gi σ (K1 + 2) j else gi σ k j := by
  unfold fX5_copy fX8_copy
  have m1 : fJ9_min_7cf53 (nI 48) (nI 48) = some (zI 48) := by
    rw [nI_zI, e_min (by omega) (by omega) (by omega) (by omega)]; rfl
  have o1 : (cpOK 0 0 (zI 48) 48 48 = true) = True := cpOK_t (s0 := 0) (d0 := 0) (by omega) (by omega) (by omega) (by omega) (by omega) (by omega) (by omega) (by omega)
  have o2 : (cpOK 0 0 400 400 400 = true) = True := cpOK_t (s0 := 0) (d0 := 0) (n := 400) (by omega) (by omega) (by omega) (by omega) (by omega) (by omega) (by omega) (by omega)
  have g1 : ∀ k j, gi (cp σ (K1 + 1 + 1) (K + 1 + 1) 0 0 (zI 48)) k j = if k = K + 2 ∧ j < 48 then gi σ (K1 + 2) j else gi σ k j := fun k j => by
    have e := gi_cp (σ := σ) (ks := K1 + 1 + 1) (kd := K + 1 + 1) (s0 := 0) (d0 := 0) (n := 48) (by omega) (by omega) (by omega) (by omega) (by omega) (by omega) k j
    refine (show gi (cp σ (K1 + 1 + 1) (K + 1 + 1) 0 0 (zI 48)) k j = _ from e).trans ?_
    by_cases q : k = K + 2 ∧ j < 48
    · rw [if_pos q, if_pos (by omega)]
      congr 1
      omega
    · rw [if_neg q, if_neg (by omega)]
  simp only [m1, Option.bind_some, o1, o2, if_true, nmM]
  have h1 : gi (cp σ (K1 + 1 + 1) (K + 1 + 1) 0 0 (zI 48)) (K + 1) 1 = zI 12 := by rw [g1, if_neg (by omega)]; exact w1
  have h2 : gi (cp σ (K1 + 1 + 1) (K + 1 + 1) 0 0 (zI 48)) (K1 + 1) 3 = zI s := by rw [g1, if_neg (by omega)]; exact hs
  rw [h1, h2, e_min (by omega) (by omega) (by omega) (by omega), Option.bind_some, show min 12 s = s by omega]
  generalize cp σ (K1 + 1 + 1) (K + 1 + 1) 0 0 (zI 48) = σ1 at *
  rw [Option.bind_some]
  have g2 : ∀ k j, gi (cp (si σ1 (K + 1) 3 (zI s)) (K1 + 3) (K + 3) 0 0 400) k j = if k = K + 3 ∧ j < 400 then gi (si σ1 (K + 1) 3 (zI s)) (K1 + 3) j else gi (si σ1 (K + 1) 3 (zI s)) k j := fun k j => by
    have e := gi_cp (σ := si σ1 (K + 1) 3 (zI s)) (ks := K1 + 3) (kd := K + 3) (s0 := 0) (d0 := 0) (n := 400) (by omega) (by omega) (by omega) (by omega) (by omega) (by omega) k j
    refine (show gi (cp (si σ1 (K + 1) 3 (zI s)) (K1 + 3) (K + 3) 0 0 400) k j = _ from e).trans ?_
    by_cases q : k = K + 3 ∧ j < 400
    · rw [if_pos q, if_pos (by omega)]
      congr 1
      omega
    · rw [if_neg q, if_neg (by omega)]
  generalize cp (si σ1 (K + 1) 3 (zI s)) (K1 + 3) (K + 3) 0 0 400 = σ2 at *
  have g3 : ∀ k j, gi (cp σ2 (K1 + 4) (K + 4) 0 0 400) k j = if k = K + 4 ∧ j < 400 then gi σ2 (K1 + 4) j else gi σ2 k j := fun k j => by
    have e := gi_cp (σ := σ2) (ks := K1 + 4) (kd := K + 4) (s0 := 0) (d0 := 0) (n := 400) (by omega) (by omega) (by omega) (by omega) (by omega) (by omega) k j
    refine (show gi (cp σ2 (K1 + 4) (K + 4) 0 0 400) k j = _ from e).trans ?_
    by_cases q : k = K + 4 ∧ j < 400
    · rw [if_pos q, if_pos (by omega)]
      congr 1
      omega
    · rw [if_neg q, if_neg (by omega)]
  generalize cp σ2 (K1 + 4) (K + 4) 0 0 400 = σ3 at *
  refine ⟨_, rfl, fun k j => ?_⟩
  rw [gi_si]
  by_cases q1 : k = K ∧ j = 5
  · rw [if_pos q1, if_pos q1, g3, if_neg (by omega), g2, if_neg (by omega), gi_si, if_neg (by omega), g1, if_neg (by omega)]
  · rw [if_neg q1, if_neg q1, g3]
    by_cases q2 : k = K + 4 ∧ j < 400
    · rw [if_pos q2, if_pos q2, g2, if_neg (by omega), gi_si, if_neg (by omega), g1, if_neg (by omega)]
    · rw [if_neg q2, if_neg q2, g2]
      by_cases q3 : k = K + 3 ∧ j < 400
      · rw [if_pos q3, if_pos q3, gi_si, if_neg (by omega), g1, if_neg (by omega)]
      · rw [if_neg q3, if_neg q3, gi_si]
        by_cases q4 : k = K + 1 ∧ j = 3
        · rw [if_pos q4, if_pos q4]
        · rw [if_neg q4, if_neg q4, g1]
set_option maxHeartbeats 2000000 in
theorem b_law {c N : Nat} {σ τ : qMem} (hN : 200000 ≤ N) (hc : c ≤ 600) (h : Inv LWd c σ τ) : Both LWd c (fX11_law N σ) (fX12_law N τ) := by
  obtain ⟨t1, t2, t3, t4⟩ := Inv_tp h
  have en : gi τ 0 28 = zI (gi τ 0 28).toInt := (zI_of _).symm
  generalize hLL : (gi τ 0 28).toInt = LL at *
  obtain ⟨L, rfl⟩ : ∃ L : Nat, LL = L := ⟨LL.toNat, by omega⟩
  have hwo := h.2.2.2.2.2.2.2.2.2.2.2.2.2.2
  have h79 := h.2.2.2.2.1
  let U : Nat → Int := fun j => (gi τ 18 j).toInt
  let T : Nat → Int := fun j => if U j < 0 then U j + 256 else U j
  have hb : ∀ j, j < L → (-128 ≤ U j ∧ U j ≤ 127) ∧ gi τ 18 j = zI (U j) ∧ gi σ 86 j = zI (T j) := fun j hj => by
    obtain ⟨q1, q2⟩ := t4 j (by omega)
    obtain ⟨z, z1, z2, z3, z4⟩ := byte_and q1
    have ez : U j = z := by show (gi τ 18 j).toInt = z; rw [z3]; exact zI_toInt (by omega) (by omega)
    refine ⟨by rw [ez]; exact ⟨z1, z2⟩, (zI_of _).symm, ?_⟩
    rw [q2, z4]
    show _ = zI (if U j < 0 then U j + 256 else U j)
    rw [ez]
  have hs : sgn T U L := fun j hj => ⟨(hb j hj).1.1, (hb j hj).1.2, rfl⟩
  have hT : okT T L := ⟨by omega, fun j hj => by
    have := (hb j hj).1
    show 0 ≤ (if U j < 0 then U j + 256 else U j) ∧ (if U j < 0 then U j + 256 else U j) ≤ 255
    split <;> omega⟩
  have hM := tkM_le T L
  obtain ⟨σ', eC, fC, kC⟩ := k_read (σ := σ) hN hT (fun j hj => (hb j hj).2.2) h79.1 h79.2
  obtain ⟨τ', eR, g29, g28, g33, kK, fR⟩ := r_reads (τ := τ) hN hT hs en (fun j hj => (hb j hj).2.1) hwo
  unfold fX11_law fX12_law
  rw [t1, en, eC, Option.bind_some, eR, Option.bind_some]
  have hft : ∀ x, pLaw (tcS T L) (tvS T L) = .ok x → ftP T L (pLaw (tcS T L) (tvS T L)) = if x.2.1 < tkM T L then (tkF T L x.2.1 : Int) else -1 := fun x hx => by rw [hx]; rfl
  have hfr : -1 ≤ ftP T L (pLaw (tcS T L) (tvS T L)) ∧ ftP T L (pLaw (tcS T L) (tvS T L)) ≤ 400 := by
    have l1 := hT.1
    cases pLaw (tcS T L) (tvS T L) with
    | error p => show -1 ≤ (tkF T L p : Int) ∧ (tkF T L p : Int) ≤ 400; have := tkF_le T L p; omega
    | ok x =>
      show -1 ≤ (if x.2.1 < tkM T L then (tkF T L x.2.1 : Int) else -1) ∧ (if x.2.1 < tkM T L then (tkF T L x.2.1 : Int) else -1) ≤ 400
      have := tkF_le T L x.2.1
      split <;> omega
  simp only [nmM]
  generalize hσ2 : si (si σ' 0 11 (zI (ftP T L (pLaw (tcS T L) (tvS T L))))) 0 10 0 = σ2
  have gσ2 : ∀ k j, gi σ2 k j = if k = 0 ∧ j = 10 then 0 else if k = 0 ∧ j = 11 then zI (ftP T L (pLaw (tcS T L) (tvS T L))) else gi σ' k j := by intro k j; rw [← hσ2]; simp only [gi_si]
  have hI : Inv LWd c σ2 τ' := by
    refine Inv_law LWd_c h (fun k j hk => ?_) fR ?_ ?_
    · rw [gσ2, if_neg (by omega), if_neg (by omega)]; exact fC k j (by omega)
    · unfold tapeR
      rw [g28, gσ2, if_pos ⟨rfl, rfl⟩, show (0 : Int32).toInt = 0 from rfl]
      exact ⟨rfl, by omega, by omega, fun j hj => by omega⟩
    · rw [gσ2, if_neg (by omega), if_pos ⟨rfl, rfl⟩, g29]
  have e11 : gi σ2 0 11 = zI (ftP T L (pLaw (tcS T L) (tvS T L))) := by rw [gσ2, if_neg (by omega), if_pos ⟨rfl, rfl⟩]
  have c11 : (gi σ2 0 11 = -1) = (ftP T L (pLaw (tcS T L) (tvS T L)) = -1) := by rw [e11, show (-1 : Int32) = zI (-1) from rfl, zI_eq (by omega) (by omega) (by omega) (by omega)]
  simp only [c11, if_bI, decide_eq_true_eq]
  by_cases q : ftP T L (pLaw (tcS T L) (tvS T L)) = -1
  · rw [if_pos q, if_pos q]
    cases hp : pLaw (tcS T L) (tvS T L) with
    | error p => rw [hp] at q; exact absurd (show (tkF T L p : Int) = -1 from q) (by omega)
    | ok x =>
      obtain ⟨a, j, l'⟩ := x
      have hj : ¬ j < tkM T L := fun z => by
        have := hft _ hp
        simp only at this
        rw [if_pos z] at this
        omega
      obtain ⟨rd, alen⟩ := law_rd0 hp
      have hjn : j = tkM T L := by
        have := rdC_le (tc := tcS T L) (tv := tvS T L) (n := tkM T L) (fun _ z => tc_0 z) a 0 j rd
        omega
      subst hjn
      obtain ⟨lw, l5, llen, _⟩ := kC a _ l' hp
      have ct := (rdC_ct (tc := tcS T L) (tv := tvS T L) (n := tkM T L) (fun _ z => tc_0 z) a 0 _ rd).1
      have ect : 1 + ctS (tcS T L) (tkM T L) = a.length := by
        have : ctS (tcS T L) 0 = 0 := rfl
        omega
      obtain ⟨v, s1, s2, s3, s4, bk, kw, lwI, im, tp, ms, rf, cc, rc, wo⟩ := hI
      have hI : Inv LWd c σ2 τ' := ⟨v, s1, s2, s3, s4, bk, kw, lwI, im, tp, ms, rf, cc, rc, wo⟩
      -- the class
      have o2 : ∀ k j, k ≠ 0 → gi σ2 k j = gi σ' k j := fun k j hk => by rw [gσ2, if_neg (by omega), if_neg (by omega)]
      have h3 : gi σ2 79 3 = zI (a.length : Nat) := by rw [o2 _ _ (by omega)]; have := lw.2.2.2.1; rw [lawR_len] at this; exact this
      obtain ⟨σ4, e4, g4⟩ := e_lawcopy (σ := σ2) (K := 35) (K1 := 78) (by omega) s1.2.2.2.2.2.2.2.2.2.2.2 h3 (by omega) (by omega)
      rw [e4, Option.bind_some, eta2]
      have e363 : gi σ4 36 3 = zI (a.length : Nat) := by rw [g4, if_neg (by omega), if_neg (by omega), if_neg (by omega), if_pos ⟨rfl, rfl⟩]
      rw [e363]
      -- the reference
      rw [if_pos (by decide)]
      rw [if_pos (c := ck 307 1112 = true) (by decide), g33, show (306 : Int32).toNatClampNeg = 306 from rfl, show (307 : Int32).toNatClampNeg = 307 from rfl]
      have l1 := hT.1
      obtain ⟨t5, e5, g307, g306, gtok, f5⟩ := r_keep (τ := τ) (t := τ') (n := tkM T L) (tc := tcS T L) (tv := tvS T L) hN (by omega) g33 (fun q hq => ⟨(kK q (by omega)).1, (kK q (by omega)).2.1, (tc_rng hT q).1, (tc_rng hT q).2⟩)
      rw [e5, ect]
      rw [ect] at g307
      have k306 : kI (t5.1 2) 306 = tkM T L := by show (gi t5 2 306).toInt = _; rw [g306, zI_toInt (by omega) (by omega)]
      have tvr : ∀ i, i < tkM T L → 0 ≤ tvS T L i ∧ tvS T L i ≤ 10000009 := fun i hi => by
        unfold tvS vlP
        by_cases k1 : kd T L (tkF T L i) = 1
        · rw [if_pos k1]
          have hrun := te_run (T := T) (L := L) (p := tkF T L i) (by omega)
          have b := (hv (T := T) (p := tkF T L i) (te T L (tkF T L i) - tkF T L i) (fun x hx => by
            have e := hrun.2.2.1 (tkF T L i + x) (by omega) (by omega)
            rw [k1] at e
            exact of_decide_eq_true ((kd_1 ((kd_lt (T := T) (L := L)).mp (by omega))).mp e))).1
          omega
        · rw [if_neg k1]; omega
      have etc : tcK (t5.1 2) = tcS T L := by
        funext i
        unfold tcK
        rw [k306]
        by_cases qi : i < tkM T L
        · rw [if_pos (by omega)]
          have r := tc_rng hT i
          show (gi t5 2 (312 + (i : Int)).toNat).toInt = _
          rw [show (312 + (i : Int)).toNat = 312 + i by omega, (gtok i qi).1, zI_toInt (by omega) (by omega)]
        · rw [if_neg (by omega)]
          by_cases z : tcS T L i = 0
          · exact z.symm
          · exact absurd (tc_0 z) qi
      have etv : tvK (t5.1 2) = tvS T L := by
        funext i
        unfold tvK
        rw [k306]
        by_cases qi : i < tkM T L
        · rw [if_pos (by omega)]
          have r := tvr i qi
          show (gi t5 2 (712 + (i : Int)).toNat).toInt = _
          rw [show (712 + (i : Int)).toNat = 712 + i by omega, (gtok i qi).2, zI_toInt (by omega) (by omega)]
        · rw [if_neg (by omega)]
          have k3 : kd T L (tkF T L i) = 3 := by unfold kd; rw [if_neg (fun z => qi (tk_lt.mpr z))]
          unfold tvS vlP
          rw [if_neg (by omega)]
      have oκ : ∀ j, ¬ (j = 306 ∨ j = 307 ∨ 312 ≤ j) → t5.1 2 j = τ'.1 2 j := fun j hj => f5 2 j (by omega)
      have o4 : ∀ k j, ¬ (35 ≤ k ∧ k ≤ 39) → gi σ4 k j = gi σ2 k j := fun k j hk => by rw [g4, if_neg (by omega), if_neg (by omega), if_neg (by omega), if_neg (by omega), if_neg (by omega)]
      refine both_accept LWd_c hc hI (fun k j hk => o4 k j (by omega)) (fun k j hk => f5 k j (by omega)) ?_ ?_ ?_ ?_ ?_
      · rw [bookS_d (m := σ2.1) (fun k j q1 q2 => ?_)]
        · exact s1
        · show gi σ4 k j = gi σ2 k j
          rw [g4, if_neg (by omega), if_neg (by omega), if_neg (by omega), if_neg (by omega), if_neg (by omega)]
      · obtain ⟨t1', t2', t3', t4', t5', t6', t7', t8', t9', t10', t11', t12', t13'⟩ := bk
        obtain ⟨k1, k2, k3, k4, k5, k6, k7, k8, k9, k10⟩ := kw
        have om : ∀ k j, ¬ (35 ≤ k ∧ k ≤ 39) → σ4.1 k j = σ2.1 k j := fun k j hk => o4 k j hk
        refine ⟨?_, ?_, ?_, ?_, ?_, ?_, ?_, ?_, ?_, ?_, ?_, ?_, ?_⟩
        · exact boatT_k (by omega) k1 (fun j hj => oκ j (by omega)) (fun k j _ _ => om k j (by omega)) t1'
        · exact boatT_k (by omega) k1 (fun j hj => oκ j (by omega)) (fun k j _ _ => om k j (by omega)) t2'
        · exact ⟨(om _ _ (by omega)).trans (t3'.1.trans (oκ _ (by omega)).symm), fun j hj => (om _ _ (by omega)).trans ((t3'.2 j hj).trans (oκ _ (by omega)).symm)⟩
        · exact fun j hj => (om _ _ (by omega)).trans ((t4' j hj).trans (oκ _ (by omega)).symm)
        · exact rowE_k (om _ _ (by omega)) (fun j => om _ _ (by omega)) (oκ _ (by omega)) (fun j _ _ => oκ _ (by omega)) t5'
        · exact rowE_k (om _ _ (by omega)) (fun j => om _ _ (by omega)) (oκ _ (by omega)) (fun j _ _ => oκ _ (by omega)) t6'
        · refine ⟨(om _ _ (by omega)).trans (t7'.1.trans (oκ _ (by omega)).symm), fun w hw => ?_⟩
          have e : kI (t5.1 2) 302 = kI (τ'.1 2) 302 := kI_e (oκ _ (by omega))
          have b := k5.1
          rw [e] at hw
          rw [om _ _ (by omega), om _ _ (by omega), om _ _ (by omega), om _ _ (by omega), om _ _ (by omega), oκ (188 + 2 * w) (by omega), oκ (188 + 2 * w + 1) (by omega)]
          exact t7'.2 w hw
        · exact rowE_k (om _ _ (by omega)) (fun j => om _ _ (by omega)) (oκ _ (by omega)) (fun j _ _ => oκ _ (by omega)) t8'
        · exact rowE_k (om _ _ (by omega)) (fun j => om _ _ (by omega)) (oκ _ (by omega)) (fun j _ _ => oκ _ (by omega)) t9'
        · exact rowE_k (om _ _ (by omega)) (fun j => om _ _ (by omega)) (oκ _ (by omega)) (fun j _ _ => oκ _ (by omega)) t10'
        · exact rowE_k (om _ _ (by omega)) (fun j => om _ _ (by omega)) (oκ _ (by omega)) (fun j _ _ => oκ _ (by omega)) t11'
        · exact rowE_k (om _ _ (by omega)) (fun j => om _ _ (by omega)) (oκ _ (by omega)) (fun j _ _ => oκ _ (by omega)) t12'
        · exact e363.trans g307.symm
      · obtain ⟨k1, k2, k3, k4, k5, k6, k7, k8, k9, k10⟩ := kw
        refine ⟨?_, ?_, ?_, ?_, ?_, ?_, ?_, ?_, ?_, ?_⟩
        · exact KB_k (fun j hj => oκ j (by omega)) k1
        · exact KT_k (fun j hj => oκ j (by omega)) k2
        · exact KH_k (fun j hj => oκ j (by omega)) k3
        · exact KE_k (fun j hj => oκ j (by omega)) k4
        · exact KR_k (fun j hj => oκ j (by omega)) k5
        · exact KS_k (fun j hj => oκ j (by omega)) k6
        · exact KG_k (fun j hj => oκ j (by omega)) k7
        · exact KO_k (fun j hj => oκ j (by omega)) k8
        · exact KP_k (fun j hj => oκ j (by omega)) k9
        · exact KC_k (fun j hj => oκ j (by omega)) k10
      · refine ⟨a, ?_, llen, alen, fun k x hk => ?_, ⟨?_, fun k x hk => ?_⟩, by rw [k306]; omega, fun i => ?_, Or.inr ?_⟩
        · show gi σ4 35 5 = _
          rw [g4, if_pos ⟨rfl, rfl⟩, o2 _ _ (by omega)]; exact l5
        · have kl := getElem_lt hk
          obtain ⟨x1, x2⟩ := lw.2.2.1 k x hk
          refine ⟨?_, ?_⟩
          · show gi σ4 38 k = _
            rw [g4, if_neg (by omega), if_neg (by omega), if_pos ⟨rfl, by omega⟩, o2 _ _ (by omega)]; exact x1
          · show gi σ4 39 k = _
            rw [g4, if_neg (by omega), if_pos ⟨rfl, by omega⟩, o2 _ _ (by omega)]; exact x2
        · rw [lawR_len]; exact e363
        · have kl := getElem_lt hk
          rw [lawR_len] at kl
          obtain ⟨x1, x2, x3, x4⟩ := lw.2.2.2.2 k x hk
          have gg : ∀ j, j < 48 → gi σ4 37 j = gi σ' 80 j := fun j hj => by rw [g4, if_neg (by omega), if_neg (by omega), if_neg (by omega), if_neg (by omega), if_pos ⟨rfl, hj⟩, o2 _ _ (by omega)]
          exact ⟨(gg _ (by omega)).trans x1, (gg _ (by omega)).trans x2, (gg _ (by omega)).trans x3, (gg _ (by omega)).trans x4⟩
        · rw [etv]
          by_cases qi : i < tkM T L
          · exact (tvr i qi).1
          · have k3 : kd T L (tkF T L i) = 3 := by unfold kd; rw [if_neg (fun z => qi (tk_lt.mpr z))]
            unfold tvS vlP
            rw [if_neg (by omega)]
            omega
        · rw [etc, etv, k306]
          exact rd
      · intro j hj
        exact oκ j (by omega)
  · rw [if_neg q, if_neg q, eta2, eta2]
    exact both_refuse (w := -6) LWd_c hI (by omega)
