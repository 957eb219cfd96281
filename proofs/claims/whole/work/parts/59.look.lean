/-! the class looks at lanes -/
theorem gi_cp {σ : qMem} {ks kd : Nat} {s0 d0 n : Int} (h1 : 0 ≤ s0) (h2 : s0 < 100000) (h3 : 0 ≤ d0) (h4 : d0 < 100000) (h5 : 0 ≤ n) (h6 : n < 100000) (k j : Nat) : gi (cp σ ks kd (zI s0) (zI d0) (zI n)) k j = if k = kd ∧ d0.toNat ≤ j ∧ j < d0.toNat + n.toNat then gi σ ks (s0.toNat + (j - d0.toNat)) else gi σ k j := by
  unfold cp
  rw [gi_sr, zI_clamp h1 (by omega), zI_clamp h3 (by omega), zI_clamp h5 (by omega)]
  unfold va_cpy
  by_cases q : k = kd
  · subst q
    by_cases q2 : d0.toNat ≤ j ∧ j < d0.toNat + n.toNat
    · simp [q2]; rfl
    · simp only [q2, if_false, and_false]; rw [if_pos trivial]; rfl
  · simp [q]
theorem cpOK_t {s0 d0 n : Int} {ns nd : Nat} (h1 : 0 ≤ s0) (h2 : s0 < 100000) (h3 : 0 ≤ d0) (h4 : d0 < 100000) (h5 : 0 ≤ n) (h6 : n < 100000) (h7 : s0 + n ≤ ns) (h8 : d0 + n ≤ nd) : (cpOK (zI s0) (zI d0) (zI n) ns nd = true) = True := by
  apply eq_true
  unfold cpOK
  rw [zI_clamp h1 (by omega), zI_clamp h3 (by omega), zI_clamp h5 (by omega)]
  apply decide_eq_true
  have z : ∀ x : Int, 0 ≤ x → x < 100000 → ¬ (zI x < 0) := fun x a b => by
    rw [zl_0, zI_lt (by omega) (by omega) (by omega) (by omega)]; omega
  exact ⟨z _ h1 h2, z _ h3 h4, z _ h5 h6, by omega, by omega⟩
theorem BandOK_c {τ τ' : qMem} {P : Int → Bool} (h : ∀ j, gi τ' 62 j = gi τ 62 j) (hb : BandOK τ P) : BandOK τ' P := by
  intro low h1 h2
  rw [← hb low h1 h2]
  unfold fX0_column fX0_column_b31
  rw [h, h, h, h]
theorem mulb {u bell : Int} (h1 : -3 ≤ u) (h2 : u ≤ 3) (h3 : 0 ≤ bell) (h4 : bell ≤ 23) : -69 ≤ u * bell ∧ u * bell ≤ 69 := by
  rcases (by omega : u = -3 ∨ u = -2 ∨ u = -1 ∨ u = 0 ∨ u = 1 ∨ u = 2 ∨ u = 3) with rfl | rfl | rfl | rfl | rfl | rfl | rfl <;> omega
def okF (κ : Nat → Int32) (it : Bool × Nat) (bell x u v y : Int) : Bool := decide (0 ≤ bell ∧ bell ≤ 23) && fitB κ it bell (x + u * bell) (y + v * bell)
theorem okB_F (κ : Nat → Int32) (it : Bool × Nat) (s x y u v : Int) : okB κ it s x y u v = okF κ it (itF κ it 1 + s) x u v y := rfl
/-- what looking rests on -/
def seen (m : Nat → Nat → Int32) (κ : Nat → Int32) : Prop := bookK m 1 κ ∧ KW κ ∧ freshAt m κ (newsL κ) ∧ tunes m κ ∧ rowS m 46 3 36 ∧ rowS m 48 3 36
theorem seen_c {m m' : Nat → Nat → Int32} {κ : Nat → Int32} (h : ∀ k j, ((1 ≤ k ∧ k ≤ 39 ∧ k ≠ 17 ∧ k ≠ 35) ∨ (46 ≤ k ∧ k ≤ 56)) → m' k j = m k j) (hs : seen m κ) : seen m' κ := by
  obtain ⟨a, b, c, d, e, f⟩ := hs
  refine ⟨?_, b, freshAt_c (fun k j q => h k j (by omega)) c, ?_, ?_, ?_⟩
  · rw [bookK_c (m := m) (m' := m') (fun k j q1 q2 q3 q4 => h k j (by omega))]; exact a
  · intro x hx
    refine ⟨fun j hj => ?_, fun j hj => ?_⟩
    · rw [h _ _ (by omega)]; exact (d x hx).1 j hj
    · rw [h _ _ (by omega)]; exact (d x hx).2 j hj
  · exact ⟨(h _ _ (by omega)).trans e.1, (h _ _ (by omega)).trans e.2⟩
  · exact ⟨(h _ _ (by omega)).trans f.1, (h _ _ (by omega)).trans f.2⟩
theorem fresh_mem {κ : Nat → Int32} {b : Int} {i : Nat} {it : Bool × Nat} (h : (freshL κ b (newsL κ))[i]? = some it) : validI κ it ∧ itF κ it 0 = b := by
  have hm := List.mem_filter.mp (List.mem_of_getElem? h)
  exact ⟨(newsL_mem hm.1).1, by simpa using hm.2⟩
theorem e_freshAt {σ : qMem} {κ : Nat → Int32} {b i : Nat} {it : Bool × Nat} (hs : seen σ.1 κ) (hb : b < 2) (hit : (freshL κ b (newsL κ))[i]? = some it) : fX8_at (46 + 2 * b) 108 (zI i) (zI 0) σ = some (bI it.1) ∧ fX8_at (46 + 2 * b) 108 (zI i) (zI 1) σ = some (zI (itF κ it 1)) ∧ fX8_at (46 + 2 * b) 108 (zI i) (zI 2) σ = some (zI (itF κ it 2)) := by
  obtain ⟨bk, kw, fr, tu, r1, r2⟩ := hs
  have hlen := freshL_len κ b (newsL κ)
  have hl2 := newsL_len kw.2.2.1 kw.2.2.2.1
  have hi := (List.getElem?_eq_some_iff.mp hit).1
  obtain ⟨f1, f2⟩ := fr b hb
  obtain ⟨g0, g1, g2⟩ := f2 i it hit
  have hw : gi σ (46 + 2 * b) 0 = zI 3 := by
    rcases (by omega : b = 0 ∨ b = 1) with rfl | rfl
    · exact r1.1
    · exact r2.1
  have rd : ∀ c : Int, 0 ≤ c → c ≤ 2 → fX8_at (46 + 2 * b) 108 (zI i) (zI c) σ = some (gi σ (47 + 2 * b) (3 * i + c.toNat)) := by
    intro c c0 c1
    rw [e_at (w := 3) (s := (freshL κ b (newsL κ)).length) hw f1 (by omega) (by omega) c0 (by omega) (by omega) (by omega) (by omega), show ((i : Int) * 3 + c).toNat = 3 * i + c.toNat by omega, show 46 + 2 * b + 1 = 47 + 2 * b by omega]
  rw [rd 0 (by omega) (by omega), rd 1 (by omega) (by omega), rd 2 (by omega) (by omega)]
  exact ⟨congrArg some g0, congrArg some g1, congrArg some g2⟩
theorem e_look {N : Nat} {σ : qMem} {κ : Nat → Int32} {b i : Nat} {bell sheaf : Int} {it : Bool × Nat} (hN : 200000 ≤ N) (hs : seen σ.1 κ) (hb : b < 2) (hit : (freshL κ b (newsL κ))[i]? = some it) (l0 : -50 ≤ bell) (l1 : bell ≤ 50) (s0 : 0 ≤ sheaf) (s1 : sheaf < 224) :
    Ho (fX3_look N (zI b) (zI i) (zI bell) (zI sheaf) σ) (fun τ => (∀ v : Nat, v < 7 → gi τ 63 v = wd (fun y => okF κ it bell (sheaf / 7) (sheaf % 7 - 3) ((v : Int) - 3) y)) ∧ ∀ k j, k ≠ 62 → k ≠ 63 → gi τ k j = gi σ k j) := by
  have hs0 := hs
  obtain ⟨hv, hb0⟩ := fresh_mem hit
  obtain ⟨a0, a1, a2⟩ := e_freshAt hs hb hit
  obtain ⟨bk, kw, fr, tu, r1, r2⟩ := hs
  obtain ⟨kb, kt, kh, ke, _⟩ := kw
  have rr := it_rng kh ke hv
  unfold fX3_look
  rw [e_isBoat (by omega) (by omega), Option.bind_some, decide_eq_true (by omega), bI_t, if_neg (by decide), e_isBell (by omega) (by omega), Option.bind_some, if_bI]
  by_cases q : 0 ≤ bell ∧ bell ≤ 23
  · rw [decide_eq_true q, if_pos rfl]
    have hboat : boatT σ.1 (3 + 6 * b) κ b := by
      rcases (by omega : b = 0 ∨ b = 1) with rfl | rfl
      · exact bk.1
      · exact bk.2.1
    have hp := hboat.2.2 bell.toNat (by omega)
    rw [show ((bell.toNat : Nat) : Int) = bell by omega] at hp
    have p0 := pos_rng (bell := bell) (w := 0) kb (show (0 : Int) ≤ b by omega) (by omega) (Or.inl rfl) q.2
    have p1 := pos_rng (bell := bell) (w := 1) kb (show (0 : Int) ≤ b by omega) (by omega) (Or.inr rfl) q.2
    have ub := mulb (u := sheaf % 7 - 3) (by omega) (by omega) q.1 q.2
    have cb : (ck (zI (b : Int)) 2 = true) = True := zI_ckT (by omega) (by omega) (by omega)
    have cl : (ck (zI bell) 24 = true) = True := zI_ckT q.1 (by omega) (by omega)
    have zb : (zI (b : Int)).toNatClampNeg = b := by rw [zI_clamp (by omega) (by omega)]; omega
    have zl : (zI bell).toNatClampNeg = bell.toNat := zI_clamp q.1 (by omega)
    have eE : fX3_eastOf (zI sheaf * 7) (zI bell) = some (zI (sheaf / 7 + (sheaf % 7 - 3) * bell)) := by
      unfold fX3_eastOf
      have d1 : zI sheaf * 7 = zI (sheaf * 7) := zI_mul sheaf 7
      have d2 : zI (sheaf * 7) / 49 = zI (sheaf * 7 / 49) := zI_divp (b := 49) (by omega) (by omega) (by omega) (by omega)
      have d3 : zI (sheaf * 7) / 7 = zI (sheaf * 7 / 7) := zI_divp (b := 7) (by omega) (by omega) (by omega) (by omega)
      have d4 : irm (zI (sheaf * 7 / 7)) 7 = zI (sheaf * 7 / 7 % 7) := zI_rem (b := 7) (by omega) (by omega) (by omega) (by omega)
      rw [d1, d2, d3, d4, show (3 : Int32) = zI 3 from rfl, zI_sub, zI_mul, zI_add, show sheaf * 7 / 49 = sheaf / 7 by omega, show sheaf * 7 / 7 = sheaf by omega]
    rw [eE, Option.bind_some]
    have gE : gi σ (3 + 6 * b + 3) bell.toNat = zI (pos κ b bell 0) := hp.1
    simp only [cb, cl, if_true, zb, zl, gE, nmI]
    rw [show fX8_at (46 + 2 * b) 108 (zI (i : Int)) 2 σ = _ from a2, Option.bind_some, show fX8_at (46 + 2 * b) 108 (zI (i : Int)) 0 σ = _ from a0, Option.bind_some, if_bI, zI_sub]
    generalize hPE : pos κ b bell 0 = E at *
    generalize hPN : pos κ b bell 1 = No at *
    generalize hX : sheaf / 7 + (sheaf % 7 - 3) * bell = X at *
    have xr : -69 ≤ X ∧ X ≤ 101 := by omega
    have h44 : gi σ 18 0 = zI (kI κ 44) := (bk.2.2.2.1 0 (by omega)).trans (zI_of _).symm
    have h45 : gi σ 18 1 = zI (kI κ 45) := (bk.2.2.2.1 1 (by omega)).trans (zI_of _).symm
    have key : ∀ s : qMem, (∀ k j, k ≠ 62 → gi s k j = gi σ k j) → BandOK s (wayB κ it (X - E)) → Ho (fX3_look_b119 N (zI (b : Int)) (zI bell) (zI (X - E)) s) (fun τ => (∀ v : Nat, v < 7 → gi τ 63 v = wd (fun y => okF κ it bell (sheaf / 7) (sheaf % 7 - 3) ((v : Int) - 3) y)) ∧ ∀ k j, k ≠ 62 → k ≠ 63 → gi τ k j = gi σ k j) := by
      intro s g1 g2
      unfold fX3_look_b119
      rw [show (0 : Int32) = zI 0 from rfl]
      refine lp_for (S := qMem) (R := qMem) (fun n v s => fX3_look_l122 N n (zI (b : Int)) (zI bell) (zI (X - E)) (zI v) s) (fun v s => 0 ≤ v ∧ (∀ w : Nat, (w : Int) < v → gi s 63 w = wd (fun y => okF κ it bell (sheaf / 7) (sheaf % 7 - 3) ((w : Int) - 3) y)) ∧ (∀ k j, k ≠ 62 → k ≠ 63 → gi s k j = gi σ k j) ∧ BandOK s (wayB κ it (X - E))) _ 7 ?_ ?_ N 0 s (by omega) (by omega) ⟨by omega, fun w hw => by omega, fun k j h1 _ => g1 k j h1, g2⟩
      · intro n s' ⟨_, h1, h2, _⟩
        show Ho (fX3_look_s122 N _ _ _ _ _ _) _
        unfold fX3_look_s122
        simp (disch := omega) only [zl_7, zI_le]
        rw [if_pos (by omega)]
        exact Ho_some ⟨fun v hv2 => h1 v (by omega), h2⟩
      · intro n v s' hv2 ⟨v0, h1, h2, h3⟩ hc
        show Ho (fX3_look_s122 N _ _ _ _ _ _) _
        have vb := mulb (u := v - 3) (by omega) (by omega) q.1 q.2
        have eL : fX3_lowOf (zI v) (zI bell) = some (zI ((v - 3) * bell)) := by
          unfold fX3_lowOf
          have d4 : irm (zI v) 7 = zI (v % 7) := zI_rem (b := 7) (by omega) (by omega) (by omega) (by omega)
          rw [d4, show (3 : Int32) = zI 3 from rfl, zI_sub, zI_mul, show v % 7 = v by omega]
        have gN : gi s' (3 + 6 * b + 4) bell.toNat = zI No := by rw [h2 _ _ (by omega) (by omega)]; exact hp.2.1
        have c7 : (7 ≤ zI v) = False := by rw [zl_7, zI_le (by omega) (by omega) (by omega) (by omega)]; exact eq_false (by omega)
        have hring : ringOK s'.1 (51 + 3 * b) (fun r => reachB κ (kI κ 47) (depS κ b) r) := by
          refine ⟨fun j hj => ?_, fun j hj => ?_⟩
          · exact (h2 (51 + 3 * b + 1) j (by omega) (by omega)).trans ((tu b hb).1 j hj)
          · exact (h2 (51 + 3 * b + 2) j (by omega) (by omega)).trans ((tu b hb).2 j hj)
        have eC := h3 ((v - 3) * bell - No) (by omega) (by omega)
        have eR := e_ringcol (e := X - E) (low := (v - 3) * bell - No) hring (by omega) (by omega) (by omega) (by omega)
        unfold fX3_look_s122 fX3_look_b194
        have c77 : (ck (zI v) 7 = true) = True := zI_ckT v0 (by omega) (by omega)
        have z77 : (zI v).toNatClampNeg = v.toNat := zI_clamp v0 (by omega)
        have v1 : zI v + 1 = zI (v + 1) := zI_add v 1
        simp only [c7, if_false, eL, Option.bind_some, cb, cl, if_true, zb, zl, gN, nmI, zI_sub, eC, eR, c77, z77, v1, nmM, wd_and]
        have fin : ∀ w : Int32, w = wd (fun y => okF κ it bell (sheaf / 7) (sheaf % 7 - 3) (v - 3) y) → Ho (fX3_look_l122 N n (zI (b : Int)) (zI bell) (zI (X - E)) (zI (v + 1)) (si s' 63 v.toNat w)) (fun τ => (∀ v : Nat, v < 7 → gi τ 63 v = wd (fun y => okF κ it bell (sheaf / 7) (sheaf % 7 - 3) ((v : Int) - 3) y)) ∧ ∀ k j, k ≠ 62 → k ≠ 63 → gi τ k j = gi σ k j) := by
          intro w hw
          refine hc _ ⟨by omega, fun x hx => ?_, fun k j k1 k2 => ?_, BandOK_c (fun j => by rw [gi_si, if_neg (by omega)]) h3⟩
          · rw [gi_si]
            by_cases qx : x = v.toNat
            · rw [if_pos ⟨rfl, qx⟩, hw, show (x : Int) = v by omega]
            · rw [if_neg (by omega)]
              exact h1 x (by omega)
          · rw [gi_si, if_neg (by omega)]; exact h2 k j k1 k2
        have efit : ∀ y : Nat, okF κ it bell (sheaf / 7) (sheaf % 7 - 3) (v - 3) y = (wayB κ it (X - E) ((v - 3) * bell - No + y) && reachB κ (kI κ 47) (depS κ b) (mxS (X - E) ((v - 3) * bell - No + y))) := by
          intro y
          unfold okF fitB
          rw [decide_eq_true q, Bool.true_and, hb0, hX, hPE, hPN, show (y : Int) + (v - 3) * bell - No = (v - 3) * bell - No + y by omega]
        by_cases qz : wd (fun j => wayB κ it (X - E) ((v - 3) * bell - No + (j : Int))) = 0
        · rw [if_pos qz]
          refine fin 0 ?_
          rw [← wd_zero]
          apply wd_congr
          intro y hy
          rw [efit, (wd_eq0 _).mp qz y hy, Bool.false_and]
        · rw [if_neg qz]
          refine fin _ ?_
          apply wd_congr
          intro y hy
          rw [efit]
    have frb : ∀ s2 : qMem, Fr (fun k => k = 62) σ s2 → ∀ k j, k ≠ 62 → gi s2 k j = gi σ k j := fun s2 hf k j hk => Fr_gi hf hk j
    have z0 : (0 : Int32).toNatClampNeg = 0 := rfl
    have z1 : (1 : Int32).toNatClampNeg = 1 := rfl
    have c0 : (ck (0 : Int32) 6 = true) = True := by decide
    have c6 : (ck (1 : Int32) 6 = true) = True := by decide
    simp only [c0, c6, if_true, z0, z1, h44, h45]
    obtain ⟨e, kk⟩ := it
    cases e
    · simp only [Bool.false_eq_true, if_false]
      refine Ho_bind (e_arc σ rr.2.2.1.1 (rr.2.2.2 rfl) kt.1.1 kt.1.2 (by omega) (by omega)) fun s2 ⟨u1, u2⟩ => ?_
      exact key s2 (frb s2 u1) u2
    · simp only [if_true]
      refine Ho_bind (e_circle hN σ rr.2.2.1.1 rr.2.2.1.2 kt.2.1.1 kt.2.1.2 (by omega) (by omega)) fun s2 ⟨u1, u2⟩ => ?_
      exact key s2 (frb s2 u1) u2
  · rw [decide_eq_false q, if_neg (by simp)]
    unfold fX3_look_b14
    refine Ho_bind (e_fill hN (by omega)) fun s g => Ho_some ⟨fun v hv2 => ?_, fun k j k1 k2 => ?_⟩
    · rw [g, if_pos ⟨rfl, hv2⟩, ← wd_zero]
      apply wd_congr
      intro y _
      unfold okF
      rw [decide_eq_false q]; rfl
    · rw [g, if_neg (by omega)]
