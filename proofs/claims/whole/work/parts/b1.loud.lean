/-! what is loud, by a law -/
def envS (sp dp rg bl bt : Int) (w : Nat) : Int := if w = 0 then sp else if w = 1 then dp else if w = 2 then rg else if w = 3 then bl else bt
theorem envS_ok {sp dp rg bl bt : Int} (h0 : 0 ≤ sp ∧ sp ≤ 1000) (h1 : 0 ≤ dp ∧ dp ≤ 1000) (h2 : 0 ≤ rg ∧ rg ≤ 1000) (h3 : 0 ≤ bl ∧ bl ≤ 1000) (h4 : 0 ≤ bt ∧ bt ≤ 1000) : okV (envS sp dp rg bl bt) := fun w hw => by
  unfold envS smE
  split
  · omega
  · split
    · omega
    · split
      · omega
      · split <;> omega
/-- a law that both hold -/
def lawOf (N : Nat) (m : Nat → Nat → Int32) (κ : Nat → Int32) (cl : List CL) : Prop := LwK m 35 cl ∧ (∀ c ∈ cl, GC N 35 c) ∧ (0 ≤ kI κ 306 ∧ kI κ 306 ≤ 400) ∧ (∀ i, 0 ≤ tvK κ i) ∧ ((cl = [] ∧ kI κ 306 = 0) ∨ rdC (tcK κ) (tvK κ) cl 0 (kI κ 306).toNat)
theorem law_of {N c : Nat} {σ τ : qMem} (h : Inv LWd c σ τ) : ∃ cl, lawOf N σ.1 (τ.1 2) cl := by
  obtain ⟨v, s1, s2, s3, s4, b1, k1, l1, im, tp, ms, rf, cc, rc, wo⟩ := h
  obtain ⟨cl, h1, h2, h3, h4, h5, h6, h7, h8⟩ := l1
  refine ⟨cl, ⟨h1, h2, h3, h4, h5, s1.2.2.2.2.2.2.2.2.2.2.1⟩, ?_, h6, h7, h8⟩
  rcases h8 with ⟨z, _⟩ | z
  · subst z; intro c hc; simp at hc
  · exact gp_rd h7 cl 0 _ z
theorem lawOf_c {N : Nat} {σ σ' : qMem} {κ : Nat → Int32} {cl : List CL} (h : lawOf N σ.1 κ cl) (f : ∀ k j, 35 ≤ k → k ≤ 39 → (k = 35 → j = 5) → gi σ' k j = gi σ k j) : lawOf N σ'.1 κ cl := by
  obtain ⟨⟨l5, l4, l12, lcd, lrw, lw4⟩, h2, h3⟩ := h
  refine ⟨⟨(f _ _ (by omega) (by omega) (by omega)).trans l5, l4, l12, fun k x hk => ⟨(f _ _ (by omega) (by omega) (by omega)).trans (lcd k x hk).1, (f _ _ (by omega) (by omega) (by omega)).trans (lcd k x hk).2⟩, ⟨(f _ _ (by omega) (by omega) (by omega)).trans lrw.1, fun k x hk => ?_⟩, (f _ _ (by omega) (by omega) (by omega)).trans lw4⟩, h2, h3⟩
  obtain ⟨a, b, c, d⟩ := lrw.2 k x hk
  exact ⟨(f _ _ (by omega) (by omega) (by omega)).trans a, (f _ _ (by omega) (by omega) (by omega)).trans b, (f _ _ (by omega) (by omega) (by omega)).trans c, (f _ _ (by omega) (by omega) (by omega)).trans d⟩
theorem lawS_sm {e : Nat → Int} {what : Int} : ∀ (a : List CL) (t : Int), smE t → (∀ c ∈ a, ∀ v, clF e c = some v → smE v) → smE (lawS e what a t)
  | [], t, ht, _ => ht
  | c :: cs, t, ht, h => by
    refine lawS_sm cs _ ?_ (fun x hx => h x (List.mem_cons_of_mem _ hx))
    unfold clS
    by_cases q : c.1 = what
    · rw [if_pos q]
      cases hf : clF e c with
      | none => exact ht
      | some v => exact h c List.mem_cons_self v hf
    · rw [if_neg q]; exact ht
def loudB (cl : List CL) (e : Nat → Int) : Bool := decide (lawS e 2 cl 0 ≤ lawS e 0 cl 0 - lawS e 1 cl 0)
theorem loud_cmp {cl : List CL} {e : Nat → Int} (hs : ∀ w, smE (lawS e w cl 0)) : (lg_cmp ((zI (lawS e 0 cl 0)).toInt64 - (zI (lawS e 1 cl 0)).toInt64) (zI (lawS e 2 cl 0)).toInt64 < 0) = (loudB cl e = false) := by
  have a := hs 0
  have b := hs 1
  have c := hs 2
  unfold smE at a b c
  rw [zI_long (by omega) (by omega), zI_long (by omega) (by omega), zI_long (by omega) (by omega), zL_sub]
  refine propext ((lg_cmp_lt _ _).trans ?_)
  rw [zL_lt (by omega) (by omega) (by omega) (by omega)]
  unfold loudB
  rw [decide_eq_false_iff_not]
  omega
theorem e_isLoud {N : Nat} {e : Nat → Int} {κ : Nat → Int32} {cl : List CL} {r : Int} {σ : qMem} (hN : 200000 ≤ N) (hL : lawOf N σ.1 κ cl) (he : ∀ w, w < 5 → w ≠ 2 → gi σ 40 w = zI (e w)) (e2 : e 2 = r) (hv : okV e) :
    Ho (fX5_isLoud N 35 (zI r) σ) (fun y => y.1 = bI (loudB cl e) ∧ ∀ k j, ¬ ((k = 35 ∧ j = 6) ∨ (k = 40 ∧ j = 2)) → gi y.2 k j = gi σ k j) := by
  have sm : ∀ w, smE (lawS e w cl 0) := fun w => lawS_sm cl 0 (by unfold smE; omega) (fun c hc v hv' => clF_sm (hL.2.1 c hc) hv hv')
  unfold fX5_isLoud
  have a0 := e_answer (what := 0) (range := r) hN hL.1 hL.2.1 he e2 hv (by omega) (by omega)
  refine Ho_bind (show Ho (fX5_answer N 35 0 (zI r) σ) _ from a0) (fun y1 ⟨x1, f1⟩ => ?_)
  have hL1 := lawOf_c (σ' := y1.2) hL (fun k j k1 k2 k3 => f1 k j (by omega))
  have a1 := e_answer (what := 1) (range := r) hN hL1.1 hL1.2.1 (fun w hw hw2 => (f1 _ _ (by omega)).trans (he w hw hw2)) e2 hv (by omega) (by omega)
  refine Ho_bind (show Ho (fX5_answer N 35 1 (zI r) y1.2) _ from a1) (fun y2 ⟨x2, f2⟩ => ?_)
  have hL2 := lawOf_c (σ' := y2.2) hL1 (fun k j k1 k2 k3 => f2 k j (by omega))
  have a2 := e_answer (what := 2) (range := r) hN hL2.1 hL2.2.1 (fun w hw hw2 => (f2 _ _ (by omega)).trans ((f1 _ _ (by omega)).trans (he w hw hw2))) e2 hv (by omega) (by omega)
  refine Ho_bind (show Ho (fX5_answer N 35 2 (zI r) y2.2) _ from a2) (fun y3 ⟨x3, f3⟩ => ?_)
  have fr : ∀ k j, ¬ ((k = 35 ∧ j = 6) ∨ (k = 40 ∧ j = 2)) → gi y3.2 k j = gi σ k j := fun k j hk => (f3 k j hk).trans ((f2 k j hk).trans (f1 k j hk))
  rw [x1, x2, x3]
  simp only [loud_cmp sm]
  cases hl : loudB cl e with
  | false => rw [if_pos rfl]; exact Ho_some ⟨rfl, fr⟩
  | true => rw [if_neg (by decide)]; exact Ho_some ⟨rfl, fr⟩
/-- where boat b would be heard, at a bell, by its speed -/
def earB (κ : Nat → Int32) (cl : List CL) (b L sp : Int) (r : Int) : Bool := reachB κ (depS κ b) (kI κ 47) r && loudB cl (envS sp (depS κ b) r L b)
/-- the class counts who would hear -/
theorem e_hearers {N : Nat} {σ : qMem} {κ : Nat → Int32} {cl : List CL} {b L sp X Y : Int} (hN : 200000 ≤ N) (hci : CI σ.1 κ) (hp : plots σ.1 κ) (hL : lawOf N σ.1 κ cl) (b0 : 0 ≤ b) (b1 : b ≤ 1) (l0 : 0 ≤ L) (l1 : L ≤ 23) (s0 : 0 ≤ sp) (s1 : sp ≤ 3) (x0 : -100 ≤ X) (x1 : X ≤ 130) (y0 : -100 ≤ Y) (y1 : Y ≤ 130) :
    Ho (fX3_hearers N (zI b) (zI L) (zI sp) (zI X) (zI Y) σ) (fun y => y.1 = zI (fb_ct (hearB κ L X Y (earB κ cl b L sp)) 50176) ∧ SC σ y.2 ∧ CC y.2.1 κ ∧ plots y.2.1 κ) := by
  obtain ⟨bs, bk, kw, cc⟩ := hci
  have hT := kw.2.1
  have hB := kw.1 b b0 b1
  have hd := hB.2.2.1
  have ht := hT.2.2.2.1
  unfold fX3_hearers
  have g14 : gi σ 44 14 = zI (fb_ct (fitR κ) 50176) := hp.2
  have le := fit_le κ
  have c14 : (gi σ 44 14 = 0) = (fb_ct (fitR κ) 50176 = 0) := by rw [g14, show (0 : Int32) = zI 0 from rfl, zI_eq (by omega) (by omega) (by omega) (by omega)]; exact propext (by omega)
  simp only [c14]
  by_cases q0 : fb_ct (fitR κ) 50176 = 0
  · rw [if_pos q0]
    have : fb_ct (hearB κ L X Y (earB κ cl b L sp)) 50176 = 0 := by
      rw [fb_ct_zero] at q0 ⊢
      intro k hk
      unfold hearB
      rw [q0 k hk, Bool.false_and]
    rw [this]
    exact Ho_some ⟨rfl, SC_refl σ, cc, hp⟩
  · rw [if_neg q0, e_isBoat (by omega) (by omega), Option.bind_some, if_bI, if_pos (decide_eq_true ⟨b0, b1⟩)]
    have k0 : (ck (zI b) 2 = true) = True := zI_ckT b0 (by omega) (by omega)
    have z0 : (zI b).toNatClampNeg = b.toNat := zI_clamp b0 (by omega)
    simp only [k0, if_true, z0, nmI]
    have gd : gi σ (3 + 6 * b.toNat) 4 = zI (depS κ b) := by
      rcases (by omega : b = 0 ∨ b = 1) with z | z
      · subst z; exact (bk.1.1).trans (zI_of _).symm
      · subst z; exact (bk.2.1.1).trans (zI_of _).symm
    rw [gd]
    have gt : gi σ 18 3 = zI (kI κ 47) := (bk.2.2.2.1 3 (by omega)).trans (zI_of _).symm
    unfold fX5_pose
    rw [if_pos (by decide)]
    simp only [nmM]
    rw [if_pos (c := ck 1 5 = true) (by decide), if_pos (c := ck 3 5 = true) (by decide), if_pos (c := ck 4 5 = true) (by decide), Option.bind_some]
    generalize hp1 : si (si (si (si σ (35 + 5) (0 : Int32).toNatClampNeg (zI sp)) (35 + 5) (1 : Int32).toNatClampNeg (zI (depS κ b))) (35 + 5) (3 : Int32).toNatClampNeg (zI L)) (35 + 5) (4 : Int32).toNatClampNeg (zI b) = σ1
    have g1 : ∀ k j, gi σ1 k j = if k = 40 ∧ j = 4 then zI b else if k = 40 ∧ j = 3 then zI L else if k = 40 ∧ j = 1 then zI (depS κ b) else if k = 40 ∧ j = 0 then zI sp else gi σ k j := by intro k j; rw [← hp1]; simp only [gi_si]; rfl
    have o1 : ∀ k j, k ≠ 40 → gi σ1 k j = gi σ k j := fun k j hk => by rw [g1, if_neg (by omega), if_neg (by omega), if_neg (by omega), if_neg (by omega)]
    have hr := e_rays (N := N) (σ := σ1) (κ := κ) (d := depS κ b) (last := 200) hN hT ((o1 _ _ (by omega)).trans (bk.2.2.1.1.trans (zI_of _).symm)) (fun j hj => (o1 _ _ (by omega)).trans (bk.2.2.1.2 j hj)) hd.1 hd.2 (by omega) (by omega)
    rw [zl_200]
    refine Ho_bind hr (fun σ2 ⟨r2, f2⟩ => ?_)
    -- what is kept while the ring is laid
    have o2 : ∀ k j, k ≠ 40 → k ≠ 17 → k ≠ 60 → gi σ2 k j = gi σ k j := fun k j h1 h2 h3 => (f2 k j h2 h3).trans (o1 k j h1)
    have env2 : ∀ w, w < 5 → w ≠ 2 → ∀ r, gi σ2 40 w = zI (envS sp (depS κ b) r L b w) := fun w hw hw2 r => by
      rw [f2 _ _ (by omega) (by omega), g1]
      rcases (by omega : w = 0 ∨ w = 1 ∨ w = 3 ∨ w = 4) with z | z | z | z
      · subst z; rfl
      · subst z; rfl
      · subst z; rfl
      · subst z; rfl
    have hL2 : lawOf N σ2.1 κ cl := lawOf_c hL (fun k j k1 k2 k3 => o2 k j (by omega) (by omega) (by omega))
    have hst := lp_for (S := qMem) (R := Int32 × qMem) (fun n i s => fX3_hearers_l67 N n (zI L) (zI X) (zI Y) (zI i) s) (fun i s => 0 ≤ i ∧ (∀ j : Nat, (j : Int) < i → gi s 58 j = bI (earB κ cl b L sp j)) ∧ ∀ k j, ¬ ((k = 35 ∧ j = 6) ∨ (k = 40 ∧ j = 2) ∨ k = 58) → gi s k j = gi σ2 k j) (fun y => y.1 = zI (fb_ct (hearB κ L X Y (earB κ cl b L sp)) 50176) ∧ SC σ y.2 ∧ CC y.2.1 κ ∧ plots y.2.1 κ) 201 ?_ ?_ N 0 σ2 (by omega) (by omega) ⟨by omega, fun j hj => by omega, fun _ _ _ => rfl⟩
    · exact hst
    · intro n s ⟨_, h1, h2⟩
      show Ho (fX3_hearers_s67 N _ _ _ _ _ _) _
      unfold fX3_hearers_s67
      have c1 : ((200 : Int32) < zI 201) = True := by decide
      simp only [c1, if_true]
      refine Ho_bind (e_settle (P := earB κ cl b L sp) hN (fun j hj => h1 j (by omega))) (fun σ3 ⟨r3, f3⟩ => ?_)
      have o3 : ∀ k j, ¬ ((k = 35 ∧ j = 6) ∨ k = 40 ∨ k = 58 ∨ k = 59 ∨ k = 17 ∨ k = 60) → gi σ3 k j = gi σ k j := fun k j hk => by rw [f3 k j (by omega), h2 k j (by omega)]; exact o2 k j (by omega) (by omega) (by omega)
      have hp3 : plots σ3.1 κ := ⟨fun l hl => (o3 61 l (by omega)).trans (hp.1 l hl), (o3 44 14 (by omega)).trans hp.2⟩
      have := e_hearL (N := N) (σ := σ3) (κ := κ) (L := L) (X := X) (Y := Y) hN hp3 r3 l0 l1 x0 x1 y0 y1
      refine Ho_mono this (fun y hy => ?_)
      rw [hy]
      refine ⟨rfl, fun k j hk => ?_, CC_c (m := σ.1) (m' := σ3.1) (fun k j hk => o3 k j (by omega)) cc, hp3⟩
      unfold scrC at hk
      exact o3 k j (by omega)
    · intro n i s hi ⟨i0, h1, h2⟩ hc
      show Ho (fX3_hearers_s67 N _ _ _ _ _ _) _
      unfold fX3_hearers_s67
      have c1 : (200 < zI i) = False := by rw [zl_200, zI_lt (by omega) (by omega) (by omega) (by omega)]; exact eq_false (by omega)
      have k1 : (ck (zI i) 201 = true) = True := zI_ckT (by omega) (by omega) (by omega)
      have z1 : (zI i).toNatClampNeg = i.toNat := zI_clamp (by omega) (by omega)
      have g60 : gi s 60 i.toNat = wd (rayW κ (depS κ b) i.toNat 5) := by rw [h2 _ _ (by omega)]; exact r2 i.toNat (by omega)
      have g18 : gi s 18 3 = zI (kI κ 47) := by rw [h2 _ _ (by omega), o2 _ _ (by omega) (by omega) (by omega)]; exact gt
      have nx : zI i + 1 = zI (i + 1) := by rw [show (1 : Int32) = zI 1 from rfl, zI_add]
      simp only [c1, if_false, k1, if_true, z1, g60]
      rw [if_pos (c := ck 3 6 = true) (by decide), show (3 : Int32).toNatClampNeg = 3 from rfl, g18, e_near hd.1 hd.2 ht.1 ht.2, Option.bind_some, if_bI, show ((i.toNat : Nat) : Int) = i by omega]
      -- a place of the ring is written
      have put : ∀ (t : qMem) (v : Bool), (∀ k j, ¬ ((k = 35 ∧ j = 6) ∨ (k = 40 ∧ j = 2)) → gi t k j = gi s k j) → v = earB κ cl b L sp i → Ho (fX3_hearers_b127 N (fX3_hearers_l67 N n) (zI L) (zI X) (zI Y) (zI i) (zI i) (bI v) t) (fun y => y.1 = zI (fb_ct (hearB κ L X Y (earB κ cl b L sp)) 50176) ∧ SC σ y.2 ∧ CC y.2.1 κ ∧ plots y.2.1 κ) := by
        intro t v ft hv
        unfold fX3_hearers_b127
        rw [e_putR v i0 (by omega), Option.bind_some, nx]
        refine hc _ ⟨by omega, fun j hj => ?_, fun k j hk => ?_⟩
        · rw [gi_si]
          by_cases e : (j : Int) = i
          · rw [if_pos ⟨rfl, by omega⟩, hv, e]
          · rw [if_neg (by omega), ft _ _ (by omega)]; exact h1 j (by omega)
        · rw [gi_si, if_neg (by omega), ft _ _ (by omega)]; exact h2 k j hk
      unfold fX3_hearers_b126
      by_cases q1 : reachB κ (depS κ b) (kI κ 47) i = true
      · rw [if_pos q1]
        have hLs : lawOf N s.1 κ cl := lawOf_c hL2 (fun k j k1 k2 k3 => h2 k j (by omega))
        have lo := e_isLoud (N := N) (e := envS sp (depS κ b) i L b) (r := i) hN hLs (fun w hw hw2 => (h2 _ _ (by omega)).trans (env2 w hw hw2 i)) rfl (envS_ok (by omega) (by omega) (by omega) (by omega) (by omega))
        refine Ho_bind lo (fun y ⟨y1, y2⟩ => ?_)
        have er : earB κ cl b L sp i = loudB cl (envS sp (depS κ b) i L b) := by unfold earB; rw [q1, Bool.true_and]
        rw [y1, if_bI]
        cases hl : loudB cl (envS sp (depS κ b) i L b) with
        | false => rw [if_neg (c := false = true) (by decide)]; exact put y.2 false y2 (by rw [er, hl])
        | true => rw [if_pos rfl]; exact put y.2 true y2 (by rw [er, hl])
      · rw [if_neg q1]
        exact put s false (fun _ _ _ => rfl) (by unfold earB; rw [Bool.eq_false_iff.mpr q1, Bool.false_and])
