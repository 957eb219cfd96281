/-! next, by both -/
/-- all places up to the one asked for -/
theorem sim_next {N H M A : Nat} {σ τ : qMem} (hN : 200000 ≤ N) (hH : H ≤ 24) (hM : M ≤ 24) (hA : A < 24) : ∀ (d i f g : Nat) (s t : qMem), i + d = A → d + 1 < f → d < g → roR 74 H s t → gi s 73 6 = zI M → nfC σ s → nfM τ t →
    ∃ (fd : Int32) (s' t' : qMem), fX4_firstNext_l4 N f (zI A) (-1) (zI i) s = some (fd, s') ∧ fX12_next_l39 N g (zI A) (zI M) (zI i) t = some (fd, t') ∧ nfC σ s' ∧ nfM τ t' := by
  have key : ∀ (w : Int32) (i f g : Nat) (s t : qMem), i ≤ A → roR 74 H s t → gi s 73 6 = zI M → nfC σ s → nfM τ t → ∃ (fd : Int32) (s' t' : qMem), fX4_firstNext_l4 N (f + 1) (zI A) w (zI i) s = fX4_firstNext_l4 N f (zI A) fd (zI ((i + 1 : Nat) : Int)) s' ∧ fX12_next_l39 N (g + 1) (zI A) (zI M) (zI i) t = (if i = A then some (fd, t') else fX12_next_l39 N g (zI A) (zI M) (zI ((i + 1 : Nat) : Int)) t') ∧ roR 74 H s' t' ∧ gi s' 73 6 = zI M ∧ nfC σ s' ∧ nfM τ t' := by
    intro w i f g s t hi ro h6 fc fm
    have c1 : (zI (A : Int) < zI (i : Int)) = False := by rw [zI_lt (by omega) (by omega) (by omega) (by omega)]; exact eq_false (by omega)
    have c2 : (24 ≤ zI (i : Int)) = False := by rw [show (24 : Int32) = zI 24 from rfl, zI_le (by omega) (by omega) (by omega) (by omega)]; exact eq_false (by omega)
    obtain ⟨t1, e1, g1⟩ := r_cp50 (N := N) (c39 := fX12_next_l39 N g) (v1 := zI A) (v2 := zI M) (v3 := zI i) (v4 := -1) (t := t) 24 0 N t (by omega) (by omega) (fun a b => by rw [if_neg (by omega)])
    have nx : nxR H M s t1 := ⟨fun a ha => by rw [g1, if_pos ⟨rfl, ha⟩]; exact ro.1 a ha, fun a b ha hb hh => by rw [g1, if_pos ⟨rfl, ha⟩]; exact ro.2.1 a b ha hb hh, h6, by rw [g1, if_neg (by omega)]; exact ro.2.2⟩
    have fm1 : nfM τ t1 := fun a b hab => by rw [g1, if_neg (by omega)]; exact fm a b hab
    obtain ⟨fd, s', t', x1, x2, x3, x4, x5, x6⟩ := sim_place (N := N) (A := zI A) (c4 := fX4_firstNext_l4 N f) (c39 := fX12_next_l39 N g) (i := i) hN hH hM (by omega) 24 0 N N s t1 (by omega) (by omega) (by omega) nx fc fm1
    refine ⟨fd, s', t', ?_, ?_, x3, x4, x5, x6⟩
    · show fX4_firstNext_s4 N _ (zI A) w (zI i) s = _
      unfold fX4_firstNext_s4
      simp only [c1, c2, if_false]
      exact x1
    · show fX12_next_s39 N _ (zI A) (zI M) (zI i) t = _
      unfold fX12_next_s39
      simp only [c1, if_false]
      refine Eq.trans (show _ = _ from e1) (Eq.trans (show _ = _ from x2) ?_)
      unfold fX12_next_b217
      have ce : (zI (i : Int) = zI (A : Int)) = (i = A) := by rw [zI_eq (by omega) (by omega) (by omega) (by omega)]; exact propext (by omega)
      simp only [ce]
      rw [show zI i + 1 = zI ((i + 1 : Nat) : Int) by rw [show (1 : Int32) = zI 1 from rfl, zI_add]; rfl]
  have gen : ∀ (d i f g : Nat) (w : Int32) (s t : qMem), i + d = A → d + 1 < f → d < g → roR 74 H s t → gi s 73 6 = zI M → nfC σ s → nfM τ t →
    ∃ (fd : Int32) (s' t' : qMem), fX4_firstNext_l4 N f (zI A) w (zI i) s = some (fd, s') ∧ fX12_next_l39 N g (zI A) (zI M) (zI i) t = some (fd, t') ∧ nfC σ s' ∧ nfM τ t' := by
    intro d
    induction d with
    | zero =>
      intro i f g w s t hi hf hg ro h6 fc fm
      obtain ⟨f, rfl⟩ : ∃ y, f = y + 1 + 1 := ⟨f - 2, by omega⟩
      obtain ⟨g, rfl⟩ : ∃ y, g = y + 1 := ⟨g - 1, by omega⟩
      obtain ⟨fd, s', t', x1, x2, x3, x4, x5, x6⟩ := key w i (f + 1) g s t (by omega) ro h6 fc fm
      refine ⟨fd, s', t', ?_, ?_, x5, x6⟩
      · rw [x1]
        show fX4_firstNext_s4 N _ (zI A) fd (zI ((i + 1 : Nat) : Int)) s' = _
        unfold fX4_firstNext_s4
        have c1 : (zI (A : Int) < zI ((i + 1 : Nat) : Int)) = True := by rw [zI_lt (by omega) (by omega) (by omega) (by omega)]; exact eq_true (by omega)
        simp only [c1, if_true]
      · rw [x2, if_pos (by omega)]
    | succ d ih =>
      intro i f g w s t hi hf hg ro h6 fc fm
      obtain ⟨f, rfl⟩ : ∃ y, f = y + 1 := ⟨f - 1, by omega⟩
      obtain ⟨g, rfl⟩ : ∃ y, g = y + 1 := ⟨g - 1, by omega⟩
      obtain ⟨fd, s', t', x1, x2, x3, x4, x5, x6⟩ := key w i f g s t (by omega) ro h6 fc fm
      rw [x1, x2, if_neg (by omega)]
      exact ih (i + 1) f g fd s' t' (by omega) (by omega) (by omega) x3 x4 x5 x6
  exact fun d i f g s t => gen d i f g (-1) s t
theorem b_next {LW : LWt} {c N : Nat} {σ τ : qMem} (hN : 200000 ≤ N) (hLW : LWc LW) (h : Inv LW c σ τ) (p1 : Int32) : Both LW c (fX11_next N p1 σ) (fX12_next N p1 τ) := by
  obtain ⟨b, l1, u1, rfl⟩ := zI_ex p1
  have kw := Inv_KW h
  have ci := Inv_CI h
  have kh := kw.2.2.1.1
  obtain ⟨H, hH⟩ : ∃ H : Nat, kI (τ.1 2) 300 = H := ⟨(kI (τ.1 2) 300).toNat, by omega⟩
  have hH24 : H ≤ 24 := by omega
  have hd := hdK_of (σ := σ) ci hH
  have g300 : gi τ 2 300 = zI H := by rw [← hH]; exact (zI_of _).symm
  have m1 : zI (H : Int) - 1 = zI ((H : Int) - 1) := by rw [show (1 : Int32) = zI 1 from rfl, zI_sub]
  unfold fX11_next fX12_next
  rw [if_pos (show ck 300 1112 = true by decide), show (300 : Int32).toNatClampNeg = 300 from rfl, g300, hd.2.1, m1]
  have i1 : fX11_isIn (zI b) 0 (zI ((H : Int) - 1)) = _ := e_isIn (b := 0) l1 u1 (by omega) (by omega) (by omega) (by omega)
  have i2 : fX12_in (zI b) 0 (zI ((H : Int) - 1)) = _ := e_in (b := 0) l1 u1 (by omega) (by omega) (by omega) (by omega)
  rw [i1, i2, Option.bind_some, Option.bind_some]
  simp only [bI_0]
  by_cases q : 0 ≤ b ∧ b ≤ (H : Int) - 1
  · rw [if_neg (by rw [decide_eq_true q]; decide), if_neg (by rw [decide_eq_true q]; decide)]
    obtain ⟨A, rfl⟩ : ∃ A : Nat, b = A := ⟨b.toNat, by omega⟩
    have hA : A < H := by omega
    have ri := hd_rng kw hH hA
    have a1 : fX8_at 19 72 (zI (A : Int)) 0 σ = _ := e_hat (f := 0) hH24 hd hA (by omega)
    have a2 : fX12_heardOf (zI (A : Int)) 0 τ = _ := r_hdOf (κ := τ.1 2) rfl (i := A) (f := 0) (by omega) (by omega)
    rw [a1, a2, Option.bind_some, Option.bind_some]
    obtain ⟨v, σ', t, τ', v1, e1, e2, e3, g6, g5, ro, _, fc, ft, fm⟩ := sim_draw (N := N) (σ := σ) (τ := τ) (κ := τ.1 2) hN rfl kw hH hH24 hd ri.1.1 ri.1.2
    rw [e1, e2, Option.bind_some, Option.bind_some, e3, Option.bind_some]
    obtain ⟨fd, s', t', x1, x2, x3, x4⟩ := sim_next (N := N) (A := A) (σ := σ') (τ := τ') hN hH24 v1 (by omega) A 0 N N σ' τ' (by omega) (by omega) (by omega) ro g6 (fun _ _ _ => rfl) (fun _ _ _ => rfl)
    refine both_q (v := fd) hLW h ?_ ?_
    · have x1' : fX4_firstNext N (zI A) σ' = some (fd, s') := x1
      rw [x1', Option.bind_some]
      have fcc : ∀ k j, ¬ (73 ≤ k ∧ k ≤ 76) → gi s' k j = gi σ k j := fun k j hk => (x3 k j (by omega)).trans (fc k j hk)
      exact Ho_some ⟨rfl, fun k j hk => fcc k j (by unfold scrC at hk; omega), CC_c (m := σ.1) (m' := s'.1) (fun k j hk => fcc k j (by omega)) ci.2.2.2⟩
    · have x2' : fX12_next_l39 N N (zI A) (zI v) 0 τ' = some (fd, t') := x2
      show Ho (fX12_next_l39 N N (zI A) (zI v) 0 τ') _
      rw [x2']
      have fmm : ∀ k j, ¬ ((k = 0 ∧ j = 20) ∨ (10 ≤ k ∧ k ≤ 13)) → gi t' k j = gi τ k j := fun k j hk => (x4 k j hk).trans ((fm k j (by omega)).trans (ft k j (by omega)))
      refine Ho_some ⟨rfl, fun k j hk => ?_, RC_c (t := τ.1) (t' := t'.1) (fun k j hk => fmm k j (by omega)) (Inv_RC h)⟩
      unfold scrM at hk
      exact fmm k j (by omega)
  · rw [if_pos (decide_eq_false q), if_pos (decide_eq_false q)]
    exact both_same hLW h _
