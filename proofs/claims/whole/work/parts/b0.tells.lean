/-! the reference tells by a law -/
section TL
variable {tc tv : Nat → Int} {n : Nat} {e : Nat → Int}
theorem v_clause {N nf i l j l' : Nat} {what told : Int} {c : CL} {τ : qMem} {Q : Int32 × qMem → Prop} (hN : 200000 ≤ N) (h : okK tc tv n e) (w0 : 0 ≤ what) (w1 : what ≤ 2) (hp : pClause tc tv i l = .ok (c, j, l')) (hin : i ≤ n) (he : Ev tc tv n e i τ)
    (hQ : ∀ τ', Ev tc tv n e (j + 1) τ' → frG τ τ' → Ho (fX12_tellsOf_l26 N nf (zI what) (zL ((clS e what c).getD told)) τ') Q) : Ho (fX12_tellsOf_l26 N (nf + 1) (zI what) (zL told) τ) Q ∧ j ≤ n ∧ i < j := by
  have hn := h.1
  have h0 := h0K h
  have hS := v_sums hN h 8 10 (by omega)
  have hT := v_tests hN h 8 10 (by omega) (by omega)
  have r := tc_rK h i
  unfold pClause at hp
  by_cases c0 : 1 ≤ tc i ∧ tc i ≤ 3
  · rw [if_pos c0] at hp
    obtain ⟨a1, j1, l1, e1, e2⟩ := bd_ok hp
    have hlt : i < n := h0 i (by omega)
    obtain ⟨z1, z2, z3⟩ := Ev_39 (x := 0) he (Or.inl rfl)
    obtain ⟨s1, s2, s3⟩ := Ev_step z1
    obtain ⟨H1, sa, jn1, ij1⟩ := hS (i + 1) l a1 j1 l1 e1 hlt true _ s1
    obtain ⟨y, ey, y1, y2, y3⟩ := Ho_get H1
    have k0 : gi (si (si τ 0 39 0) 0 37 (gi (si τ 0 39 0) 0 37 + 1)) 0 39 = 0 := s3.trans z3
    have ys := y3.1 rfl k0
    obtain ⟨u1, u2, u3⟩ := Ev_39 (x := 0) y1 (Or.inl rfl)
    have ps : fX12_passes 4 (si y.2 0 39 0) = _ := r_passes h (c := 4) u1 (by omega) (by omega) (by omega)
    have c1 : (zI n ≤ zI i) = False := by rw [zI_le (by omega) (by omega) (by omega) (by omega)]; exact eq_false (by omega)
    have ef : fX12_tellsOf_l26 N (nf + 1) (zI what) (zL told) τ = ((fX12_passes 4 (si y.2 0 39 0)).bind fun y9 => (if y9.1 = 0 then (fX12_tellsOf_b96 N (fX12_tellsOf_l26 N nf) (zI what) (zL told) (zI (tc i)) y.1 (gi y.2 0 39) y9.2) else ((fX12_testOf N 10 1 y9.2).bind fun y10 => (if y10.1 = 0 then (fX12_tellsOf_b101 N (fX12_tellsOf_l26 N nf) (zI what) (zL told) (zI (tc i)) y.1 (gi y.2 0 39) 0 y10.2) else (fX12_tellsOf_b96 N (fX12_tellsOf_l26 N nf) (zI what) (zL told) (zI (tc i)) y.1 (gi y.2 0 39) y10.2))))) := by
      show fX12_tellsOf_s26 N _ (zI what) (zL told) τ = _
      unfold fX12_tellsOf_s26
      rw [he.1, he.2.1]
      simp only [c1, if_false, nmM]
      rw [r_codeAt h z1 (by omega), Option.bind_some]
      have ey' : fX12_sumOf N 10 1 (si (si τ 0 39 0) 0 37 (gi (si τ 0 39 0) 0 37 + 1)) = some y := ey
      rw [ey', Option.bind_some]
    rw [ef, ps]
    have frA := frG_trans z2 (frG_trans s2 (frG_trans y2 u2))
    -- the end of a clause
    have fin : ∀ (t : qMem) (v : Int64), Ev tc tv n e j t → frG τ t → v = zL ((clS e what c).getD told) → Ho (fX12_tellsOf_l26 N nf (zI what) v (si t 0 37 (gi t 0 37 + 1))) Q := fun t v h1 h2 h3 => by
      obtain ⟨m1, m2, m3⟩ := Ev_step h1
      rw [h3]
      exact hQ _ m1 (frG_trans h2 m2)
    have b132 : ∀ t, Ev tc tv n e j t → frG τ t → (clS e what c = none) → Ho (fX12_tellsOf_b132 N (fX12_tellsOf_l26 N nf) (zI what) (zL told) y.1 t) Q := fun t h1 h2 h3 => by
      unfold fX12_tellsOf_b132 fX12_tellsOf_b133 fX12_tellsOf_b153
      simp only [nmM, if_true]
      exact fin t _ h1 h2 (by rw [h3]; rfl)
    have ch : (zI (tc i) = 1 + zI what) = (tc i - 1 = what) := by rw [show (1 : Int32) = zI 1 from rfl, zI_add, zI_eq r.1 r.2 (by omega) (by omega)]; exact propext (by omega)
    have b96 : ∀ t, Ev tc tv n e j t → frG τ t → gi t 0 39 = 0 → c.1 = tc i - 1 → clF e c = a1.2 e → Ho (fX12_tellsOf_b96 N (fX12_tellsOf_l26 N nf) (zI what) (zL told) (zI (tc i)) y.1 (gi y.2 0 39) t) Q := fun t h1 h2 h3 h4 h5 => by
      unfold fX12_tellsOf_b96 fX12_tellsOf_b101
      rw [if_neg n10, if_pos h3]
      simp only [ch]
      have hs : clS e what c = if tc i - 1 = what then a1.2 e else none := by unfold clS; rw [h4, h5]
      cases hfa : a1.2 e with
      | none =>
        rw [if_neg (by rw [ys.2 hfa]; exact n10)]
        refine b132 t h1 h2 ?_
        rw [hs, hfa]
        split <;> rfl
      | some v =>
        obtain ⟨v1, v2⟩ := ys.1 v hfa
        rw [if_pos v2]
        by_cases q : tc i - 1 = what
        · rw [if_pos q]
          unfold fX12_tellsOf_b133 fX12_tellsOf_b153
          simp only [nmM]
          rw [if_neg n10]
          refine fin t _ h1 h2 ?_
          rw [v1, hs, if_pos q, hfa]
          rfl
        · rw [if_neg q]
          refine b132 t h1 h2 ?_
          rw [hs, if_neg q]
    by_cases c4 : tc j1 = 4
    · rw [if_pos c4] at e2
      rw [if_pos c4, Option.bind_some, if_neg (show ¬ ((1 : Int32), si (si y.2 0 39 0) 0 37 (gi (si y.2 0 39 0) 0 37 + 1)).1 = 0 from n10)]
      obtain ⟨b1, j2, l2, e3, e4⟩ := bd_ok e2
      simp only [Except.ok.injEq, Prod.mk.injEq] at e4
      obtain ⟨q1, q2, q3⟩ := e4
      subst q2
      obtain ⟨m1, m2, m3⟩ := Ev_step u1
      obtain ⟨H2, jn2, ij2⟩ := hT (j1 + 1) l1 b1 j2 l2 e3 (h0 j1 (by omega)) true _ m1
      refine ⟨?_, jn2, by omega⟩
      obtain ⟨w, ew, wv1, wv2, wv3⟩ := Ho_get H2
      have ew' : fX12_testOf N 10 1 (si (si y.2 0 39 0) 0 37 (gi (si y.2 0 39 0) 0 37 + 1)) = some w := ew
      show Ho ((fX12_testOf N 10 1 (si (si y.2 0 39 0) 0 37 (gi (si y.2 0 39 0) 0 37 + 1))).bind _) Q
      rw [ew', Option.bind_some]
      have ws := wv3.1 rfl (m3.trans u3)
      have frB := frG_trans frA (frG_trans m2 wv2)
      have ht : c.2.2 = some b1 := by rw [← q1]
      have hF := clF_s (e := e) ht
      have hs1 : c.2.1 = a1 := by rw [← q1]
      have hh : c.1 = tc i - 1 := by rw [← q1]
      rw [hs1] at hF
      cases hfb : b1.2 e with
      | none =>
        have k9 := ws.2 hfb
        rw [hfb, if_neg (by simp)] at hF
        have hn' : clS e what c = none := by unfold clS; rw [hF]; split <;> rfl
        by_cases q : w.1 = 0
        · rw [if_pos q]
          unfold fX12_tellsOf_b101
          rw [if_pos rfl]
          exact b132 w.2 wv1 frB hn'
        · rw [if_neg q]
          unfold fX12_tellsOf_b96 fX12_tellsOf_b101
          rw [if_neg n10, if_neg (by rw [k9]; exact n10)]
          exact b132 w.2 wv1 frB hn'
      | some x =>
        obtain ⟨k1, k9⟩ := ws.1 x hfb
        cases x with
        | false =>
          rw [hfb, if_neg (by simp)] at hF
          have hn' : clS e what c = none := by unfold clS; rw [hF]; split <;> rfl
          rw [if_pos (by rw [k1]; rfl)]
          unfold fX12_tellsOf_b101
          rw [if_pos rfl]
          exact b132 w.2 wv1 frB hn'
        | true =>
          rw [hfb, if_pos rfl] at hF
          rw [if_neg (by rw [k1]; exact n10)]
          exact b96 w.2 wv1 frB k9 hh hF
    · rw [if_neg c4] at e2
      rw [if_neg c4, Option.bind_some, if_pos rfl]
      simp only [Except.ok.injEq, Prod.mk.injEq] at e2
      obtain ⟨q1, q2, q3⟩ := e2
      subst q2
      have ht : c.2.2 = none := by rw [← q1]
      have hF := clF_n (e := e) ht
      have hs1 : c.2.1 = a1 := by rw [← q1]
      have hh : c.1 = tc i - 1 := by rw [← q1]
      rw [hs1] at hF
      exact ⟨b96 _ u1 frA u3 hh hF, jn1, by omega⟩
  · rw [if_neg c0] at hp; simp at hp
theorem v_law {N : Nat} {what : Int} (hN : 200000 ≤ N) (h : okK tc tv n e) (w0 : 0 ≤ what) (w1 : what ≤ 2) : ∀ (a : List CL) (i nf : Nat) (told : Int) (τ : qMem), rdC tc tv a i n → i ≤ n → a.length < nf → smE told → (∀ c ∈ a, ∀ v, clF e c = some v → smE v) → Ev tc tv n e i τ → Ho (fX12_tellsOf_l26 N nf (zI what) (zL told) τ) (fun y => y.1 = zI (lawS e what a told) ∧ frG τ y.2 ∧ (gi y.2 0 39 = 0 ∨ gi y.2 0 39 = 1)) := by
  have hn := h.1
  have h0 := h0K h
  have gs : ∀ (c : CL) (t : Int), smE t → (∀ v, clF e c = some v → smE v) → smE ((clS e what c).getD t) := fun c t ht hc => by
    unfold clS
    by_cases q : c.1 = what
    · rw [if_pos q]
      cases hf : clF e c with
      | none => exact ht
      | some v => exact hc v hf
    · rw [if_neg q]; exact ht
  have step : ∀ (c : CL) (i l k l' nf : Nat) (told : Int) (τ : qMem) (P : Int32 × qMem → Prop), pClause tc tv i l = .ok (c, k, l') → i ≤ n → Ev tc tv n e i τ → (∀ τ', Ev tc tv n e (k + 1) τ' → frG τ τ' → Ho (fX12_tellsOf_l26 N nf (zI what) (zL ((clS e what c).getD told)) τ') P) → Ho (fX12_tellsOf_l26 N (nf + 1) (zI what) (zL told) τ) P := fun c i l k l' nf told τ P hp hi he hQ => (v_clause hN h w0 w1 hp hi he hQ).1
  intro a
  induction a with
  | nil => intro i nf told τ hr; exact hr.elim
  | cons c cs ih =>
    intro i nf told τ hr hi hnf ht hsm he
    obtain ⟨nf, rfl⟩ : ∃ k, nf = k + 1 := ⟨nf - 1, by omega⟩
    have hc := hsm c List.mem_cons_self
    have sm' := gs c told ht hc
    cases cs with
    | nil =>
      obtain ⟨l, l', e1⟩ := hr
      refine step c i l n l' nf told τ _ e1 hi he (fun τ' he' fr' => ?_)
      simp only [List.length_cons, List.length_nil] at hnf
      obtain ⟨nf, rfl⟩ : ∃ k, nf = k + 1 := ⟨nf - 1, by omega⟩
      show Ho (fX12_tellsOf_s26 N _ (zI what) _ τ') _
      unfold fX12_tellsOf_s26
      rw [he'.1, he'.2.1]
      have c1 : (zI n ≤ zI ((n + 1 : Nat) : Int)) = True := by rw [zI_le (by omega) (by omega) (by omega) (by omega)]; exact eq_true (by omega)
      simp only [c1, if_true]
      unfold smE at sm'
      rw [zL_int (by omega) (by omega)]
      exact Ho_some ⟨rfl, fr', he'.2.2.2.2⟩
    | cons d ds =>
      obtain ⟨l, k, l', e1, e59, r⟩ := hr
      refine step c i l k l' nf told τ _ e1 hi he (fun τ' he' fr' => ?_)
      have := ih (k + 1) nf ((clS e what c).getD told) τ' r (h0 k (by omega)) (by simp only [List.length_cons] at hnf ⊢; omega) sm' (fun x hx => hsm x (List.mem_cons_of_mem _ hx)) he'
      exact Ho_mono this (fun y ⟨y1, y2, y3⟩ => ⟨y1, frG_trans fr' y2, y3⟩)
end TL
theorem si_si {σ : qMem} {k j : Nat} {x y : Int32} : si (si σ k j x) k j y = si σ k j y :=
  Prod.ext (funext fun a => funext fun b => by
    show gi (si (si σ k j x) k j y) a b = gi (si σ k j y) a b
    rw [gi_si, gi_si, gi_si]
    split <;> rfl) rfl
/-- the reference tells -/
theorem r_tellsOf {N : Nat} {e : Nat → Int} {cl : List CL} {what range : Int} {τ : qMem} (hN : 200000 ≤ N) (n0 : 0 ≤ kI (τ.1 2) 306) (n1 : kI (τ.1 2) 306 ≤ 400) (tv0 : ∀ i, 0 ≤ tvK (τ.1 2) i) (hr : (cl = [] ∧ kI (τ.1 2) 306 = 0) ∨ rdC (tcK (τ.1 2)) (tvK (τ.1 2)) cl 0 (kI (τ.1 2) 306).toNat) (hl : cl.length ≤ 12) (he : ∀ w, w < 5 → w ≠ 2 → gi τ 23 w = zI (e w)) (e2 : e 2 = range) (hv : okV e) (w0 : 0 ≤ what) (w1 : what ≤ 2) (hsm : ∀ c ∈ cl, ∀ v, clF e c = some v → smE v) :
    Ho (fX12_tellsOf N (zI range) (zI what) τ) (fun y => y.1 = zI (lawS e what cl 0) ∧ ∀ k j, ¬ ((k = 0 ∧ 37 ≤ j ∧ j ≤ 39) ∨ (k = 23 ∧ j = 2)) → gi y.2 k j = gi τ k j) := by
  unfold fX12_tellsOf
  rw [if_pos (by decide)]
  simp only [nmM]
  rw [if_pos (by decide), show (2 : Int32).toNatClampNeg = 2 from rfl, show (306 : Int32).toNatClampNeg = 306 from rfl]
  generalize hs : si (si (si τ 23 2 (zI range)) 0 37 0) 0 38 (gi (si (si τ 23 2 (zI range)) 0 37 0) 2 306) = t
  have g : ∀ k j, gi t k j = if k = 0 ∧ j = 38 then gi τ 2 306 else if k = 0 ∧ j = 37 then 0 else if k = 23 ∧ j = 2 then zI range else gi τ k j := by
    intro k j
    rw [← hs]
    simp only [gi_si]
    simp
  obtain ⟨n, hn⟩ : ∃ n : Nat, kI (τ.1 2) 306 = n := ⟨(kI (τ.1 2) 306).toNat, by omega⟩
  have h306 : gi τ 2 306 = zI n := by rw [← hn]; exact (zI_of _).symm
  have hK : okK (tcK (τ.1 2)) (tvK (τ.1 2)) n e := by
    refine ⟨by omega, fun q _ => ?_, fun q hq => ?_, fun q => ⟨tv0 q, ?_⟩, hv⟩
    · unfold tcK
      split
      · exact ⟨kI_lo _ _, kI_hi _ _⟩
      · omega
    · unfold tcK; rw [if_neg (by omega)]
    · unfold tvK
      split
      · exact kI_hi _ _
      · omega
  have hE : Ev (tcK (τ.1 2)) (tvK (τ.1 2)) n e 0 (si t 0 39 0) := by
    refine ⟨?_, ?_, fun q hq => ⟨?_, ?_⟩, fun w hw => ?_, ?_⟩
    · rw [gi_si, if_neg (by omega), g, if_neg (by omega), if_pos ⟨rfl, rfl⟩]; rfl
    · rw [gi_si, if_neg (by omega), g, if_pos ⟨rfl, rfl⟩]; exact h306
    · rw [gi_si, if_neg (by omega), g, if_neg (by omega), if_neg (by omega), if_neg (by omega)]
      unfold tcK
      rw [if_pos (by omega)]
      have := kI_z τ 2 (312 + (q : Int))
      rw [show (312 + (q : Int)).toNat = 312 + q by omega] at this
      exact this
    · rw [gi_si, if_neg (by omega), g, if_neg (by omega), if_neg (by omega), if_neg (by omega)]
      unfold tvK
      rw [if_pos (by omega)]
      have := kI_z τ 2 (712 + (q : Int))
      rw [show (712 + (q : Int)).toNat = 712 + q by omega] at this
      exact this
    · by_cases q : w = 2
      · subst q; rw [gi_si, if_neg (by omega), g, if_neg (by omega), if_neg (by omega), if_pos ⟨rfl, rfl⟩, e2]
      · rw [gi_si, if_neg (by omega), g, if_neg (by omega), if_neg (by omega), if_neg (by omega)]; exact he w hw q
    · rw [gi_si, if_pos ⟨rfl, rfl⟩]; exact Or.inl rfl
  have frame : ∀ y : qMem, frG t y → ∀ k j, ¬ ((k = 0 ∧ 37 ≤ j ∧ j ≤ 39) ∨ (k = 23 ∧ j = 2)) → gi y k j = gi τ k j := fun y hy k j hk => by
    rw [hy k j (by omega), g, if_neg (by omega), if_neg (by omega), if_neg (by omega)]
  have g37 : gi t 0 37 = 0 := by rw [g, if_neg (by omega), if_pos ⟨rfl, rfl⟩]
  have g38 : gi t 0 38 = zI n := by rw [g, if_pos ⟨rfl, rfl⟩]; exact h306
  obtain ⟨M, eM⟩ : ∃ k, N = k + 1 := ⟨N - 1, by omega⟩
  rcases hr with ⟨hc, hz⟩ | hr
  · subst hc
    have e0 : fX12_tellsOf_l26 N N (zI what) 0 t = some ((0 : Int64).toInt32, t) := by
      conv => lhs; rw [show fX12_tellsOf_l26 N N = fX12_tellsOf_l26 N (M + 1) by rw [← eM]]
      show fX12_tellsOf_s26 N _ (zI what) 0 t = _
      unfold fX12_tellsOf_s26
      have n0' : n = 0 := by omega
      rw [g37, g38, n0', if_pos (by decide)]
    rw [e0]
    exact Ho_some ⟨rfl, frame t (frG_refl t)⟩
  · rw [hn] at hr
    have npos : 0 < n := by
      cases cl with
      | nil => exact hr.elim
      | cons c cs => exact (rdC_ct (h0K hK) (c :: cs) 0 n hr).2
    have es : fX12_tellsOf_l26 N N (zI what) 0 t = fX12_tellsOf_l26 N N (zI what) 0 (si t 0 39 0) := by
      rw [show fX12_tellsOf_l26 N N = fX12_tellsOf_l26 N (M + 1) by rw [← eM]]
      show fX12_tellsOf_s26 N _ (zI what) 0 t = fX12_tellsOf_s26 N _ (zI what) 0 (si t 0 39 0)
      unfold fX12_tellsOf_s26
      have c1 : (zI n ≤ 0) = False := by rw [show (0 : Int32) = zI 0 from rfl, zI_le (by omega) (by omega) (by omega) (by omega)]; exact eq_false (by omega)
      have a37 : gi (si t 0 39 0) 0 37 = 0 := by rw [gi_si, if_neg (by omega)]; exact g37
      have a38 : gi (si t 0 39 0) 0 38 = zI n := by rw [gi_si, if_neg (by omega)]; exact g38
      simp only [g37, g38, a37, a38, c1, if_false, nmM, si_si]
    rw [es]
    have := v_law hN hK w0 w1 cl 0 N 0 _ hr (by omega) (by omega) (by unfold smE; omega) hsm hE
    refine Ho_mono this (fun y ⟨y1, y2, y3⟩ => ⟨y1, frame y.2 (fun k j hk => ?_)⟩)
    rw [y2 k j hk, gi_si, if_neg (by omega)]
