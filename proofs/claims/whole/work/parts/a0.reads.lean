/-! the reference reads -/
def tkK (T : Nat → Int) (L : Nat) (t : qMem) : Prop := ∀ q, q ≤ tkM T L → gi t 20 q = zI (tcS T L q) ∧ gi t 21 q = zI (tvS T L q) ∧ gi t 22 q = zI (tkF T L q)
def Rt (T : Nat → Int) (L i l : Nat) (t : qMem) : Prop := gi t 0 34 = zI i ∧ i ≤ tkM T L ∧ gi t 0 35 = zI l ∧ l ≤ 50 ∧ gi t 0 36 = -1 ∧ tkK T L t
def frT (τ t : qMem) : Prop := ∀ k j, ¬ (k = 0 ∧ 34 ≤ j ∧ j ≤ 36) → gi t k j = gi τ k j
theorem frT_refl (τ : qMem) : frT τ τ := fun _ _ _ => rfl
theorem frT_trans {a b c : qMem} (h : frT a b) (h2 : frT b c) : frT a c := fun k j hk => (h2 k j hk).trans (h k j hk)
def okR {α : Type} (T : Nat → Int) (L : Nat) (F : qMem → Option qMem) (P : Nat → Nat → Except Nat (α × Nat × Nat)) : Prop :=
  (∀ t, gi t 0 36 ≠ -1 → F t = some t) ∧ ∀ t i l, Rt T L i l t → (∀ a j l', P i l = .ok (a, j, l') → ∃ t', F t = some t' ∧ Rt T L j l' t' ∧ frT t t' ∧ i ≤ j) ∧ (∀ p, P i l = .error p → ∃ t', F t = some t' ∧ gi t' 0 36 = zI (tkF T L p) ∧ frT t t')
section RR
variable {T : Nat → Int} {L : Nat}
theorem tc_rng (hT : okT T L) (i : Nat) : 0 ≤ tcS T L i ∧ tcS T L i ≤ 355 := by
  unfold tcS cdP
  have hk := kd_le T L (tkF T L i)
  rcases (by omega : kd T L (tkF T L i) = 0 ∨ kd T L (tkF T L i) = 1 ∨ kd T L (tkF T L i) = 2 ∨ kd T L (tkF T L i) = 3) with g | g | g | g
  · rw [if_pos g]
    have := wc_rng (slc T (tkF T L i) (te T L (tkF T L i) - tkF T L i))
    omega
  · rw [if_neg (by omega), if_pos g]; omega
  · rw [if_neg (by omega), if_neg (by omega), if_pos g]
    have := hT.2 _ ((kd_lt (T := T) (L := L) (p := tkF T L i)).mp (by omega))
    omega
  · rw [if_neg (by omega), if_neg (by omega), if_neg (by omega)]; omega
theorem bad_ne (hT : okT T L) {t : qMem} {p : Nat} (h : gi t 0 36 = zI (tkF T L p)) : gi t 0 36 ≠ -1 := by
  have := tkF_le T L p
  have := hT.1
  rw [h, show (-1 : Int32) = zI (-1) from rfl]
  intro z
  have := zI_inj (by omega) (by omega) (by omega) (by omega) z
  omega
theorem r_fine (t : qMem) : fX12_fine t = some (bI (decide (gi t 0 36 = -1))) := by
  unfold fX12_fine
  by_cases q : gi t 0 36 = -1
  · rw [if_pos q, decide_eq_true q]; rfl
  · rw [if_neg q, decide_eq_false q]; rfl
theorem fine_t {t : qMem} (h : gi t 0 36 = -1) : fX12_fine t = some 1 := by rw [r_fine, decide_eq_true h]; rfl
theorem fine_f {t : qMem} (h : gi t 0 36 ≠ -1) : fX12_fine t = some 0 := by rw [r_fine, decide_eq_false h]; rfl
theorem takes_bad {t : qMem} (c : Int32) (h : gi t 0 36 ≠ -1) : fX12_takes c t = some (0, t) := by
  unfold fX12_takes
  rw [fine_f h, Option.bind_some, if_pos rfl]
  unfold fX12_takes_b24 fX12_takes_b25
  rw [if_pos rfl, if_pos (Or.inl rfl)]
theorem faults_bad {t : qMem} (h : gi t 0 36 ≠ -1) : fX12_faults t = some t := by
  unfold fX12_faults
  rw [fine_f h, Option.bind_some, if_pos rfl]
theorem Rt_to {t t' : qMem} {i l j l' : Nat} (h : Rt T L i l t) (f : frT t t') (h1 : gi t' 0 34 = zI j) (h2 : j ≤ tkM T L) (h3 : gi t' 0 35 = zI l') (h4 : l' ≤ 50) (h5 : gi t' 0 36 = -1) : Rt T L j l' t' :=
  ⟨h1, h2, h3, h4, h5, fun q hq => ⟨(f _ _ (by omega)).trans (h.2.2.2.2.2 q hq).1, (f _ _ (by omega)).trans (h.2.2.2.2.2 q hq).2.1, (f _ _ (by omega)).trans (h.2.2.2.2.2 q hq).2.2⟩⟩
theorem r_step {t : qMem} {i l : Nat} (h : Rt T L i l t) (hi : i < tkM T L) : Rt T L (i + 1) l (si t 0 34 (gi t 0 34 + 1)) ∧ frT t (si t 0 34 (gi t 0 34 + 1)) := by
  have f : frT t (si t 0 34 (gi t 0 34 + 1)) := fun k j hk => by rw [gi_si, if_neg (by omega)]
  refine ⟨Rt_to h f ?_ (by omega) ?_ h.2.2.2.1 ?_, f⟩
  · rw [gi_si, if_pos ⟨rfl, rfl⟩, h.1, show (1 : Int32) = zI 1 from rfl, zI_add]; rfl
  · rw [gi_si, if_neg (by omega)]; exact h.2.2.1
  · rw [gi_si, if_neg (by omega)]; exact h.2.2.2.2.1
theorem code_at (hT : okT T L) {t : qMem} {i l : Nat} (h : Rt T L i l t) : (ck (gi t 0 34) 401 = true) = True ∧ gi t 20 (gi t 0 34).toNatClampNeg = zI (tcS T L i) ∧ gi t 21 (gi t 0 34).toNatClampNeg = zI (tvS T L i) ∧ gi t 22 (gi t 0 34).toNatClampNeg = zI (tkF T L i) := by
  have hM := tkM_le T L
  have hL := hT.1
  have hi := h.2.1
  rw [h.1, show (zI i).toNatClampNeg = i by rw [zI_clamp (by omega) (by omega)]; omega]
  exact ⟨zI_ckT (by omega) (by omega) (by omega), (h.2.2.2.2.2 i h.2.1).1, (h.2.2.2.2.2 i h.2.1).2.1, (h.2.2.2.2.2 i h.2.1).2.2⟩
theorem r_takes (hT : okT T L) {t : qMem} {i l : Nat} {c : Int} (h : Rt T L i l t) (hc : 1 ≤ c) (hc2 : c ≤ 355) : (tcS T L i = c → ∃ t', fX12_takes (zI c) t = some (1, t') ∧ Rt T L (i + 1) l t' ∧ frT t t') ∧ (tcS T L i ≠ c → fX12_takes (zI c) t = some (0, t)) := by
  obtain ⟨c1, c2, _, _⟩ := code_at hT h
  have r := tc_rng hT i
  have e : (zI (tcS T L i) = zI c) = (tcS T L i = c) := by rw [zI_eq (by omega) (by omega) (by omega) (by omega)]
  have ef : fX12_takes (zI c) t = if tcS T L i = c then fX12_takes_b25 1 t else fX12_takes_b24 t := by
    unfold fX12_takes
    rw [fine_t h.2.2.2.2.1, Option.bind_some, if_neg (by decide)]
    simp only [c1, if_true, c2, e]
  refine ⟨fun q => ?_, fun q => ?_⟩
  · obtain ⟨s1, s2⟩ := r_step h (tc_0 (by omega))
    refine ⟨_, ?_, s1, s2⟩
    rw [ef, if_pos q]
    unfold fX12_takes_b25
    rw [if_neg (by decide)]
    simp only [nmM, or_true, if_true]
  · rw [ef, if_neg q]
    unfold fX12_takes_b24 fX12_takes_b25
    rw [if_pos rfl, if_pos (Or.inl rfl)]
theorem r_faults (hT : okT T L) {t : qMem} {i l : Nat} (h : Rt T L i l t) : ∃ t', fX12_faults t = some t' ∧ gi t' 0 36 = zI (tkF T L i) ∧ frT t t' := by
  obtain ⟨c1, _, _, c4⟩ := code_at hT h
  unfold fX12_faults
  rw [fine_t h.2.2.2.2.1, Option.bind_some, if_neg (by decide)]
  simp only [c1, if_true, c4, nmM]
  exact ⟨_, rfl, by rw [gi_si, if_pos ⟨rfl, rfl⟩], fun k j hk => by rw [gi_si, if_neg (by omega)]⟩
theorem must_bad {t : qMem} (c : Int32) (h : gi t 0 36 ≠ -1) : fX12_must c t = some t := by
  unfold fX12_must
  rw [takes_bad c h, Option.bind_some, if_pos rfl, faults_bad h, Option.bind_some]
theorem r_must (hT : okT T L) {t : qMem} {i l : Nat} {c : Int} (h : Rt T L i l t) (hc : 1 ≤ c) (hc2 : c ≤ 355) : (tcS T L i = c → ∃ t', fX12_must (zI c) t = some t' ∧ Rt T L (i + 1) l t' ∧ frT t t') ∧ (tcS T L i ≠ c → ∃ t', fX12_must (zI c) t = some t' ∧ gi t' 0 36 = zI (tkF T L i) ∧ frT t t') := by
  obtain ⟨k1, k2⟩ := r_takes hT h hc hc2
  refine ⟨fun q => ?_, fun q => ?_⟩
  · obtain ⟨t', e, r, f⟩ := k1 q
    refine ⟨t', ?_, r, f⟩
    unfold fX12_must
    rw [e, Option.bind_some, if_neg (show ¬ ((1 : Int32), t').1 = 0 from n10)]
  · obtain ⟨t', e, r, f⟩ := r_faults hT h
    refine ⟨t', ?_, r, f⟩
    unfold fX12_must
    rw [k2 q, Option.bind_some, if_pos rfl]
    show (fX12_faults t).bind _ = _
    rw [e, Option.bind_some]
theorem r_part {N : Nat} {rs : Int32 → qMem → Option qMem} {d deep : Nat} (hN : 200000 ≤ N) (hT : okT T L) (hd : deep + d = 8) (hi : ∀ d', d = d' + 1 → okR T L (rs (zI ((deep + 1 : Nat) : Int))) (pSum (tcS T L) (tvS T L) (pIn (tcS T L) (tvS T L) d'))) : okR T L (fX12_readPart N rs (zI deep)) (pPart (tcS T L) (tvS T L) (pIn (tcS T L) (tvS T L) d)) := by
  have hM := tkM_le T L
  have hL := hT.1
  refine ⟨fun t ht => ?_, fun t i l h => ?_⟩
  · unfold fX12_readPart
    rw [fine_f ht, Option.bind_some, if_pos rfl]
  · obtain ⟨c1, c2, c3, c4⟩ := code_at hT h
    have r := tc_rng hT i
    have e191 : (zI (tcS T L i) = 100 + 91) = (tcS T L i = 191) := by rw [show (100 + 91 : Int32) = zI 191 from rfl, zI_eq (by omega) (by omega) (by omega) (by omega)]
    have e50 : (zI (tcS T L i) = 50) = (tcS T L i = 50) := by rw [show (50 : Int32) = zI 50 from rfl, zI_eq (by omega) (by omega) (by omega) (by omega)]
    have ev : tcS T L i = 50 → (zI (tvS T L i) ≤ 1000) = (tvS T L i ≤ 1000) := fun z => by
      have hk := (tc_num hT).mp z
      have hlt := (kd_lt (T := T) (L := L) (p := tkF T L i)).mp (by omega)
      have hrun := te_run (T := T) (L := L) (p := tkF T L i) (by omega)
      have b := (hv (T := T) (p := tkF T L i) (te T L (tkF T L i) - tkF T L i) (fun x hx => by
        have e := hrun.2.2.1 (tkF T L i + x) (by omega) (by omega)
        rw [hk] at e
        exact of_decide_eq_true ((kd_1 ((kd_lt (T := T) (L := L)).mp (by omega))).mp e))).1
      have et : tvS T L i = vN T (tkF T L i) (te T L (tkF T L i) - tkF T L i) := by unfold tvS vlP; rw [if_pos hk]
      rw [et, zl_1000, zI_le (by omega) (by omega) (by omega) (by omega)]
    have e8 : (zI (tcS T L i) < 8) = (tcS T L i < 8) := by rw [show (8 : Int32) = zI 8 from rfl, zI_lt (by omega) (by omega) (by omega) (by omega)]
    have e12 : (12 < zI (tcS T L i)) = (12 < tcS T L i) := by rw [show (12 : Int32) = zI 12 from rfl, zI_lt (by omega) (by omega) (by omega) (by omega)]
    have ef : fX12_readPart N rs (zI deep) t = if tcS T L i = 191 then (if zI deep = 8 then ((fX12_faults t).bind fun y4 => (fX12_readPart_b37 N rs (zI deep) y4)) else (fX12_readPart_b37 N rs (zI deep) t)) else if (tcS T L i = 50 ∧ tvS T L i ≤ 1000) ∨ (8 ≤ tcS T L i ∧ tcS T L i ≤ 12) then fX12_readPart_b107 N rs t else fX12_readPart_b114 N rs t := by
      unfold fX12_readPart fX12_readPart_b95 fX12_sign
      rw [fine_t h.2.2.2.2.1, Option.bind_some, if_neg (by decide)]
      simp only [c1, if_true, c2, c3, nmI, Option.bind_some, e191, e50, e8, e12]
      by_cases q : tcS T L i = 191
      · rw [if_pos q, if_pos q]
      · rw [if_neg q, if_neg q]
        by_cases q5 : tcS T L i = 50
        · rw [if_pos q5]
          simp only [ev q5]
          by_cases qv : tvS T L i ≤ 1000
          · rw [if_pos qv, if_pos (Or.inl ⟨q5, qv⟩)]
          · rw [if_neg qv, if_neg (by omega), if_pos (by omega), if_neg (by omega)]
        · rw [if_neg q5]
          by_cases q8 : tcS T L i < 8
          · rw [if_pos q8, if_neg (by omega)]
          · rw [if_neg q8]
            by_cases q12 : 12 < tcS T L i
            · rw [if_pos q12, if_neg (by omega)]
            · rw [if_neg q12, if_pos (by omega)]
    rw [ef]
    have ba : ∀ (o : Except Nat (EE × Nat × Nat)) (F : Option qMem), o = .error i → (∃ t', F = some t' ∧ gi t' 0 36 = zI (tkF T L i) ∧ frT t t') → (∀ a j l', o = .ok (a, j, l') → ∃ t', F = some t' ∧ Rt T L j l' t' ∧ frT t t' ∧ i ≤ j) ∧ (∀ p, o = .error p → ∃ t', F = some t' ∧ gi t' 0 36 = zI (tkF T L p) ∧ frT t t') := by
      intro o F ho hF
      refine ⟨fun a j l' hp => by rw [ho] at hp; simp at hp, fun p hp => ?_⟩
      rw [ho] at hp
      have : i = p := by simpa using hp
      subst this
      exact hF
    unfold pPart
    by_cases q : tcS T L i = 191
    · rw [if_pos q, if_pos q]
      have hlt : i < tkM T L := tc_0 (by omega)
      have e8' : (zI deep = 8) = (deep = 8) := by rw [show (8 : Int32) = zI 8 from rfl, zI_eq (by omega) (by omega) (by omega) (by omega)]; exact propext (by omega)
      simp only [e8']
      cases d with
      | zero =>
        rw [if_pos (by omega)]
        refine ba _ _ rfl ?_
        obtain ⟨t', e, b, f⟩ := r_faults hT h
        refine ⟨t', ?_, b, f⟩
        rw [e, Option.bind_some]
        unfold fX12_readPart_b37
        rw [fine_f (bad_ne hT b), Option.bind_some, if_pos rfl]
      | succ d =>
        rw [if_neg (by omega)]
        obtain ⟨s1, s2⟩ := r_step h hlt
        obtain ⟨hb, hg⟩ := hi d rfl
        obtain ⟨ko, ke⟩ := hg _ (i + 1) l s1
        have nx : zI deep + 1 = zI ((deep + 1 : Nat) : Int) := by rw [show (1 : Int32) = zI 1 from rfl, zI_add]; rfl
        have eb : fX12_readPart_b37 N rs (zI deep) t = (rs (zI ((deep + 1 : Nat) : Int)) (si t 0 34 (gi t 0 34 + 1))).bind fun y7 => (fX12_must (zI 193) y7).bind fun y9 => some y9 := by
          unfold fX12_readPart_b37 fX12_sign
          rw [fine_t h.2.2.2.2.1, Option.bind_some, if_neg (by decide)]
          simp only [nmM, nx, Option.bind_some]
          rfl
        rw [eb]
        unfold pIn
        cases hp : pSum (tcS T L) (tvS T L) (pIn (tcS T L) (tvS T L) d) (i + 1) l with
        | error p =>
          obtain ⟨t2, e2, b2, f2⟩ := ke p hp
          refine ⟨fun b j l' hb => by simp [bd] at hb, fun p' hb => ?_⟩
          have : p = p' := by simpa [bd] using hb
          subst this
          exact ⟨t2, by rw [e2, Option.bind_some, must_bad _ (bad_ne hT b2), Option.bind_some], b2, frT_trans s2 f2⟩
        | ok x =>
          obtain ⟨b, j, l'⟩ := x
          obtain ⟨t2, e2, r2, f2, ij⟩ := ko b j l' hp
          obtain ⟨m1, m2⟩ := r_must hT r2 (c := 193) (by omega) (by omega)
          show (∀ b' j' l'', (if tcS T L j = 193 then Except.ok (b, j + 1, l') else .error j) = .ok (b', j', l'') → _) ∧ (∀ p, (if tcS T L j = 193 then Except.ok (b, j + 1, l') else .error j) = .error p → _)
          by_cases qj : tcS T L j = 193
          · rw [if_pos qj]
            obtain ⟨t3, e3, r3, f3⟩ := m1 qj
            refine ⟨fun b' j' l'' hb => ?_, fun p hb => by simp at hb⟩
            simp only [Except.ok.injEq, Prod.mk.injEq] at hb
            obtain ⟨p1, p2, p3⟩ := hb
            subst p1 p2 p3
            exact ⟨t3, by rw [e2, Option.bind_some, e3, Option.bind_some], r3, frT_trans s2 (frT_trans f2 f3), by omega⟩
          · rw [if_neg qj]
            obtain ⟨t3, e3, r3, f3⟩ := m2 qj
            refine ⟨fun b' j' l'' hb => by simp at hb, fun p hb => ?_⟩
            have : j = p := by simpa using hb
            subst this
            exact ⟨t3, by rw [e2, Option.bind_some, e3, Option.bind_some], r3, frT_trans s2 (frT_trans f2 f3)⟩
    · rw [if_neg q, if_neg q]
      by_cases q2 : (tcS T L i = 50 ∧ tvS T L i ≤ 1000) ∨ (8 ≤ tcS T L i ∧ tcS T L i ≤ 12)
      · rw [if_pos q2, if_pos q2]
        have hlt : i < tkM T L := tc_0 (by omega)
        have hl50 := h.2.2.2.1
        have c50 : (gi t 0 35 = 50) = (50 ≤ l) := by rw [h.2.2.1, show (50 : Int32) = zI 50 from rfl, zI_eq (by omega) (by omega) (by omega) (by omega)]; exact propext (by omega)
        have eb : fX12_readPart_b107 N rs t = if 50 ≤ l then ((fX12_faults t).bind fun y1 => (fX12_leaf_b13 y1)) else fX12_leaf_b13 t := by
          unfold fX12_readPart_b107 fX12_leaf
          simp only [c50]
          split
          · cases ((fX12_faults t).bind fun y1 => (fX12_leaf_b13 y1)) <;> rfl
          · cases (fX12_leaf_b13 t) <;> rfl
        rw [eb]
        by_cases q3 : 50 ≤ l
        · rw [if_pos q3, if_pos q3]
          refine ba _ _ rfl ?_
          obtain ⟨t', e, b, f⟩ := r_faults hT h
          have g36 : gi (si t' 0 35 (gi t' 0 35 + 1)) 0 36 = gi t' 0 36 := by rw [gi_si, if_neg (by omega)]
          refine ⟨si t' 0 35 (gi t' 0 35 + 1), ?_, g36.trans b, fun k j hk => by rw [gi_si, if_neg (by omega)]; exact f k j hk⟩
          rw [e, Option.bind_some]
          unfold fX12_leaf_b13
          simp only [nmM]
          rw [fine_f (by rw [g36]; exact bad_ne hT b), Option.bind_some, if_pos rfl]
        · rw [if_neg q3, if_neg q3]
          refine ⟨fun b' j' l'' hb => ?_, fun p hb => by simp at hb⟩
          simp only [Except.ok.injEq, Prod.mk.injEq] at hb
          obtain ⟨p1, p2, p3⟩ := hb
          subst p2 p3
          have g36 : gi (si t 0 35 (gi t 0 35 + 1)) 0 36 = -1 := by rw [gi_si, if_neg (by omega)]; exact h.2.2.2.2.1
          have h1 : Rt T L i (l + 1) (si t 0 35 (gi t 0 35 + 1)) := Rt_to h (fun k j hk => by rw [gi_si, if_neg (by omega)]) (by rw [gi_si, if_neg (by omega)]; exact h.1) h.2.1 (by rw [gi_si, if_pos ⟨rfl, rfl⟩, h.2.2.1, show (1 : Int32) = zI 1 from rfl, zI_add]; rfl) (by omega) g36
          obtain ⟨s1, s2⟩ := r_step h1 hlt
          refine ⟨_, ?_, s1, frT_trans (fun k j hk => by rw [gi_si, if_neg (by omega)]) s2, by omega⟩
          unfold fX12_leaf_b13
          simp only [nmM]
          rw [fine_t g36, Option.bind_some, if_neg (by decide)]
      · rw [if_neg q2, if_neg q2]
        refine ba _ _ rfl ?_
        obtain ⟨t', e, b, f⟩ := r_faults hT h
        refine ⟨t', ?_, b, f⟩
        unfold fX12_readPart_b114
        rw [e, Option.bind_some]
theorem r_termEL {N : Nat} {rs : Int32 → qMem → Option qMem} {p1 : Int32} {P : Nat → Nat → Except Nat (EE × Nat × Nat)} (hN : 200000 ≤ N) (hT : okT T L) (hp : okR T L (fX12_readPart N rs p1) (pPart (tcS T L) (tvS T L) P)) : (∀ n t, gi t 0 36 ≠ -1 → fX12_readTerm_l5 N rs (n + 1) p1 t = some t) ∧ ∀ (f n : Nat) (a : EE) (t : qMem) (i l : Nat), 500 ≤ f + i → L < n + i → Rt T L i l t →
    (∀ b j l', pTermL (tcS T L) (tvS T L) P f a i l = .ok (b, j, l') → ∃ t', fX12_readTerm_l5 N rs n p1 t = some t' ∧ Rt T L j l' t' ∧ frT t t' ∧ i ≤ j) ∧ (∀ p, pTermL (tcS T L) (tvS T L) P f a i l = .error p → ∃ t', fX12_readTerm_l5 N rs n p1 t = some t' ∧ gi t' 0 36 = zI (tkF T L p) ∧ frT t t') := by
  have hM := tkM_le T L
  have hL := hT.1
  have ebad : ∀ n t, gi t 0 36 ≠ -1 → fX12_readTerm_l5 N rs (n + 1) p1 t = some t := by
    intro n t ht
    show fX12_readTerm_s5 N rs _ p1 t = _
    unfold fX12_readTerm_s5 fX12_sign
    simp only [Option.bind_some, takes_bad _ ht, if_true]
  refine ⟨ebad, ?_⟩
  intro f
  induction f with
  | zero => intro n a t i l hf hn h; have := h.2.1; omega
  | succ f ih =>
    intro n a t i l hf hn h
    have hiM := h.2.1
    obtain ⟨n, rfl⟩ : ∃ k, n = k + 1 := ⟨n - 1, by omega⟩
    obtain ⟨k1, k2⟩ := r_takes hT h (c := 142) (by omega) (by omega)
    obtain ⟨m1, m2⟩ := r_takes hT h (c := 147) (by omega) (by omega)
    unfold pTermL
    by_cases q : tcS T L i = 142 ∨ tcS T L i = 147
    · rw [if_pos q]
      have st : ∃ t1, fX12_readTerm_l5 N rs (n + 1) p1 t = (fX12_readPart N rs p1 t1).bind (fun y6 => fX12_readTerm_l5 N rs n p1 y6) ∧ Rt T L (i + 1) l t1 ∧ frT t t1 := by
        by_cases q1 : tcS T L i = 142
        · obtain ⟨t1, e1, r1, f1⟩ := k1 q1
          refine ⟨t1, ?_, r1, f1⟩
          show fX12_readTerm_s5 N rs _ p1 t = _
          unfold fX12_readTerm_s5 fX12_sign
          have e1' : fX12_takes (100 + 42) t = some (1, t1) := e1
          rw [Option.bind_some, e1', Option.bind_some, if_neg (show ¬ ((1 : Int32), t1).1 = 0 from n10)]
          rfl
        · obtain ⟨t1, e1, r1, f1⟩ := m1 (by omega)
          refine ⟨t1, ?_, r1, f1⟩
          show fX12_readTerm_s5 N rs _ p1 t = _
          unfold fX12_readTerm_s5 fX12_sign
          have e0 : fX12_takes (100 + 42) t = some (0, t) := k2 q1
          have e1' : fX12_takes (100 + 47) t = some (1, t1) := e1
          rw [Option.bind_some, e0, Option.bind_some, if_pos rfl, Option.bind_some]
          show (fX12_takes (100 + 47) t).bind _ = _
          rw [e1', Option.bind_some, if_neg (show ¬ ((1 : Int32), t1).1 = 0 from n10)]
          rfl
      obtain ⟨t1, e1, r1, f1⟩ := st
      rw [e1]
      obtain ⟨ko, ke⟩ := hp.2 t1 (i + 1) l r1
      generalize (if tcS T L i = 142 then (4 : Int) else 5) = op
      cases hps : pPart (tcS T L) (tvS T L) P (i + 1) l with
      | error p =>
        obtain ⟨t2, e2, b2, f2⟩ := ke p hps
        refine ⟨fun b j l' hb => by simp [bd] at hb, fun p' hb => ?_⟩
        have : p = p' := by simpa [bd] using hb
        subst this
        obtain ⟨n, rfl⟩ : ∃ k, n = k + 1 := ⟨n - 1, by have := r1.2.1; omega⟩
        exact ⟨t2, by rw [e2, Option.bind_some, ebad n t2 (bad_ne hT b2)], b2, frT_trans f1 f2⟩
      | ok x =>
        obtain ⟨b, j, l'⟩ := x
        obtain ⟨t2, e2, r2, f2, ij⟩ := ko b j l' hps
        rw [e2, Option.bind_some]
        show (∀ b' j' l'', pTermL (tcS T L) (tvS T L) P f (binE op a b) j l' = .ok (b', j', l'') → _) ∧ (∀ p, pTermL (tcS T L) (tvS T L) P f (binE op a b) j l' = .error p → _)
        obtain ⟨io, ie⟩ := ih n (binE op a b) t2 j l' (by omega) (by omega) r2
        refine ⟨fun b' j' l'' hb => ?_, fun p hb => ?_⟩
        · obtain ⟨t3, e3, r3, f3, ij3⟩ := io b' j' l'' hb
          exact ⟨t3, e3, r3, frT_trans f1 (frT_trans f2 f3), by omega⟩
        · obtain ⟨t3, e3, b3, f3⟩ := ie p hb
          exact ⟨t3, e3, b3, frT_trans f1 (frT_trans f2 f3)⟩
    · rw [if_neg q]
      have e0 : fX12_takes (100 + 42) t = some (0, t) := k2 (by omega)
      have e1 : fX12_takes (100 + 47) t = some (0, t) := m2 (by omega)
      have ef : fX12_readTerm_l5 N rs (n + 1) p1 t = some t := by
        show fX12_readTerm_s5 N rs _ p1 t = _
        unfold fX12_readTerm_s5 fX12_sign
        simp only [Option.bind_some, e0, e1, if_true]
      refine ⟨fun b j l' hb => ?_, fun p hb => by simp at hb⟩
      simp only [Except.ok.injEq, Prod.mk.injEq] at hb
      obtain ⟨p1, p2, p3⟩ := hb
      subst p1 p2 p3
      exact ⟨t, ef, h, frT_refl t, by omega⟩
theorem r_termE {N : Nat} {rs : Int32 → qMem → Option qMem} {p1 : Int32} {P : Nat → Nat → Except Nat (EE × Nat × Nat)} (hN : 200000 ≤ N) (hT : okT T L) (hp : okR T L (fX12_readPart N rs p1) (pPart (tcS T L) (tvS T L) P)) : okR T L (fX12_readTerm N rs p1) (pTerm (tcS T L) (tvS T L) P) := by
  have hM := tkM_le T L
  have hL := hT.1
  obtain ⟨lb, ll⟩ := r_termEL hN hT hp
  obtain ⟨M, eM⟩ : ∃ k, N = k + 1 := ⟨N - 1, by omega⟩
  have lb' : ∀ t, gi t 0 36 ≠ -1 → fX12_readTerm_l5 N rs N p1 t = some t := fun t ht => by
    have := lb M t ht
    rwa [← eM] at this
  refine ⟨fun t ht => ?_, fun t i l h => ?_⟩
  · unfold fX12_readTerm
    rw [hp.1 t ht, Option.bind_some, lb' t ht]
  · obtain ⟨ko, ke⟩ := hp.2 t i l h
    unfold pTerm fX12_readTerm
    cases hps : pPart (tcS T L) (tvS T L) P i l with
    | error p =>
      obtain ⟨t2, e2, b2, f2⟩ := ke p hps
      refine ⟨fun b j l' hb => by simp [bd] at hb, fun p' hb => ?_⟩
      have : p = p' := by simpa [bd] using hb
      subst this
      exact ⟨t2, by rw [e2, Option.bind_some, lb' t2 (bad_ne hT b2)], b2, f2⟩
    | ok x =>
      obtain ⟨b, j, l'⟩ := x
      obtain ⟨t2, e2, r2, f2, ij⟩ := ko b j l' hps
      rw [e2, Option.bind_some]
      show (∀ b' j' l'', pTermL (tcS T L) (tvS T L) P 500 b j l' = .ok (b', j', l'') → _) ∧ (∀ p, pTermL (tcS T L) (tvS T L) P 500 b j l' = .error p → _)
      obtain ⟨io, ie⟩ := ll 500 N b t2 j l' (by omega) (by omega) r2
      refine ⟨fun b' j' l'' hb => ?_, fun p hb => ?_⟩
      · obtain ⟨t3, e3, r3, f3, ij3⟩ := io b' j' l'' hb
        exact ⟨t3, e3, r3, frT_trans f2 f3, by omega⟩
      · obtain ⟨t3, e3, b3, f3⟩ := ie p hb
        exact ⟨t3, e3, b3, frT_trans f2 f3⟩
theorem r_sumEL {N : Nat} {rs : Int32 → qMem → Option qMem} {p1 : Int32} {P : Nat → Nat → Except Nat (EE × Nat × Nat)} (hN : 200000 ≤ N) (hT : okT T L) (hp : okR T L (fX12_readTerm N rs p1) (pTerm (tcS T L) (tvS T L) P)) : (∀ n t, gi t 0 36 ≠ -1 → fX12_readSum_l5 N rs (n + 1) p1 t = some t) ∧ ∀ (f n : Nat) (a : EE) (t : qMem) (i l : Nat), 500 ≤ f + i → L < n + i → Rt T L i l t →
    (∀ b j l', pSumL (tcS T L) (tvS T L) P f a i l = .ok (b, j, l') → ∃ t', fX12_readSum_l5 N rs n p1 t = some t' ∧ Rt T L j l' t' ∧ frT t t' ∧ i ≤ j) ∧ (∀ p, pSumL (tcS T L) (tvS T L) P f a i l = .error p → ∃ t', fX12_readSum_l5 N rs n p1 t = some t' ∧ gi t' 0 36 = zI (tkF T L p) ∧ frT t t') := by
  have hM := tkM_le T L
  have hL := hT.1
  have ebad : ∀ n t, gi t 0 36 ≠ -1 → fX12_readSum_l5 N rs (n + 1) p1 t = some t := by
    intro n t ht
    show fX12_readSum_s5 N rs _ p1 t = _
    unfold fX12_readSum_s5 fX12_sign
    simp only [Option.bind_some, takes_bad _ ht, if_true]
  refine ⟨ebad, ?_⟩
  intro f
  induction f with
  | zero => intro n a t i l hf hn h; have := h.2.1; omega
  | succ f ih =>
    intro n a t i l hf hn h
    have hiM := h.2.1
    obtain ⟨n, rfl⟩ : ∃ k, n = k + 1 := ⟨n - 1, by omega⟩
    obtain ⟨k1, k2⟩ := r_takes hT h (c := 143) (by omega) (by omega)
    obtain ⟨m1, m2⟩ := r_takes hT h (c := 145) (by omega) (by omega)
    unfold pSumL
    by_cases q : tcS T L i = 143 ∨ tcS T L i = 145
    · rw [if_pos q]
      have st : ∃ t1, fX12_readSum_l5 N rs (n + 1) p1 t = (fX12_readTerm N rs p1 t1).bind (fun y6 => fX12_readSum_l5 N rs n p1 y6) ∧ Rt T L (i + 1) l t1 ∧ frT t t1 := by
        by_cases q1 : tcS T L i = 143
        · obtain ⟨t1, e1, r1, f1⟩ := k1 q1
          refine ⟨t1, ?_, r1, f1⟩
          show fX12_readSum_s5 N rs _ p1 t = _
          unfold fX12_readSum_s5 fX12_sign
          have e1' : fX12_takes (100 + 43) t = some (1, t1) := e1
          rw [Option.bind_some, e1', Option.bind_some, if_neg (show ¬ ((1 : Int32), t1).1 = 0 from n10)]
          rfl
        · obtain ⟨t1, e1, r1, f1⟩ := m1 (by omega)
          refine ⟨t1, ?_, r1, f1⟩
          show fX12_readSum_s5 N rs _ p1 t = _
          unfold fX12_readSum_s5 fX12_sign
          have e0 : fX12_takes (100 + 43) t = some (0, t) := k2 q1
          have e1' : fX12_takes (100 + 45) t = some (1, t1) := e1
          rw [Option.bind_some, e0, Option.bind_some, if_pos rfl, Option.bind_some]
          show (fX12_takes (100 + 45) t).bind _ = _
          rw [e1', Option.bind_some, if_neg (show ¬ ((1 : Int32), t1).1 = 0 from n10)]
          rfl
      obtain ⟨t1, e1, r1, f1⟩ := st
      rw [e1]
      obtain ⟨ko, ke⟩ := hp.2 t1 (i + 1) l r1
      generalize (if tcS T L i = 143 then (2 : Int) else 3) = op
      cases hps : pTerm (tcS T L) (tvS T L) P (i + 1) l with
      | error p =>
        obtain ⟨t2, e2, b2, f2⟩ := ke p hps
        refine ⟨fun b j l' hb => by simp [bd] at hb, fun p' hb => ?_⟩
        have : p = p' := by simpa [bd] using hb
        subst this
        obtain ⟨n, rfl⟩ : ∃ k, n = k + 1 := ⟨n - 1, by have := r1.2.1; omega⟩
        exact ⟨t2, by rw [e2, Option.bind_some, ebad n t2 (bad_ne hT b2)], b2, frT_trans f1 f2⟩
      | ok x =>
        obtain ⟨b, j, l'⟩ := x
        obtain ⟨t2, e2, r2, f2, ij⟩ := ko b j l' hps
        rw [e2, Option.bind_some]
        show (∀ b' j' l'', pSumL (tcS T L) (tvS T L) P f (binE op a b) j l' = .ok (b', j', l'') → _) ∧ (∀ p, pSumL (tcS T L) (tvS T L) P f (binE op a b) j l' = .error p → _)
        obtain ⟨io, ie⟩ := ih n (binE op a b) t2 j l' (by omega) (by omega) r2
        refine ⟨fun b' j' l'' hb => ?_, fun p hb => ?_⟩
        · obtain ⟨t3, e3, r3, f3, ij3⟩ := io b' j' l'' hb
          exact ⟨t3, e3, r3, frT_trans f1 (frT_trans f2 f3), by omega⟩
        · obtain ⟨t3, e3, b3, f3⟩ := ie p hb
          exact ⟨t3, e3, b3, frT_trans f1 (frT_trans f2 f3)⟩
    · rw [if_neg q]
      have e0 : fX12_takes (100 + 43) t = some (0, t) := k2 (by omega)
      have e1 : fX12_takes (100 + 45) t = some (0, t) := m2 (by omega)
      have ef : fX12_readSum_l5 N rs (n + 1) p1 t = some t := by
        show fX12_readSum_s5 N rs _ p1 t = _
        unfold fX12_readSum_s5 fX12_sign
        simp only [Option.bind_some, e0, e1, if_true]
      refine ⟨fun b j l' hb => ?_, fun p hb => by simp at hb⟩
      simp only [Except.ok.injEq, Prod.mk.injEq] at hb
      obtain ⟨p1, p2, p3⟩ := hb
      subst p1 p2 p3
      exact ⟨t, ef, h, frT_refl t, by omega⟩
theorem r_sumE {N : Nat} {rs : Int32 → qMem → Option qMem} {p1 : Int32} {P : Nat → Nat → Except Nat (EE × Nat × Nat)} (hN : 200000 ≤ N) (hT : okT T L) (hp : okR T L (fX12_readTerm N rs p1) (pTerm (tcS T L) (tvS T L) P)) : okR T L (fX12_readSum_e N rs p1) (pSum (tcS T L) (tvS T L) P) := by
  have hM := tkM_le T L
  have hL := hT.1
  obtain ⟨lb, ll⟩ := r_sumEL hN hT hp
  obtain ⟨M, eM⟩ : ∃ k, N = k + 1 := ⟨N - 1, by omega⟩
  have lb' : ∀ t, gi t 0 36 ≠ -1 → fX12_readSum_l5 N rs N p1 t = some t := fun t ht => by
    have := lb M t ht
    rwa [← eM] at this
  refine ⟨fun t ht => ?_, fun t i l h => ?_⟩
  · unfold fX12_readSum_e
    rw [hp.1 t ht, Option.bind_some, lb' t ht]
  · obtain ⟨ko, ke⟩ := hp.2 t i l h
    unfold pSum fX12_readSum_e
    cases hps : pTerm (tcS T L) (tvS T L) P i l with
    | error p =>
      obtain ⟨t2, e2, b2, f2⟩ := ke p hps
      refine ⟨fun b j l' hb => by simp [bd] at hb, fun p' hb => ?_⟩
      have : p = p' := by simpa [bd] using hb
      subst this
      exact ⟨t2, by rw [e2, Option.bind_some, lb' t2 (bad_ne hT b2)], b2, f2⟩
    | ok x =>
      obtain ⟨b, j, l'⟩ := x
      obtain ⟨t2, e2, r2, f2, ij⟩ := ko b j l' hps
      rw [e2, Option.bind_some]
      show (∀ b' j' l'', pSumL (tcS T L) (tvS T L) P 500 b j l' = .ok (b', j', l'') → _) ∧ (∀ p, pSumL (tcS T L) (tvS T L) P 500 b j l' = .error p → _)
      obtain ⟨io, ie⟩ := ll 500 N b t2 j l' (by omega) (by omega) r2
      refine ⟨fun b' j' l'' hb => ?_, fun p hb => ?_⟩
      · obtain ⟨t3, e3, r3, f3, ij3⟩ := io b' j' l'' hb
        exact ⟨t3, e3, r3, frT_trans f2 f3, by omega⟩
      · obtain ⟨t3, e3, b3, f3⟩ := ie p hb
        exact ⟨t3, e3, b3, frT_trans f2 f3⟩
theorem r_sum {N : Nat} (hN : 200000 ≤ N) (hT : okT T L) : ∀ (d D deep : Nat), deep + d = 8 → d < D → okR T L (fX12_readSum N D (zI deep)) (pSum (tcS T L) (tvS T L) (pIn (tcS T L) (tvS T L) d)) := by
  intro d
  induction d with
  | zero =>
    intro D deep hd hD
    obtain ⟨D, rfl⟩ : ∃ k, D = k + 1 := ⟨D - 1, by omega⟩
    exact r_sumE hN hT (r_termE hN hT (r_part hN hT hd (fun d' hd' => by omega)))
  | succ d ih =>
    intro D deep hd hD
    obtain ⟨D, rfl⟩ : ∃ k, D = k + 1 := ⟨D - 1, by omega⟩
    refine r_sumE hN hT (r_termE hN hT (r_part hN hT hd (fun d' hd' => ?_)))
    have : d' = d := by omega
    subst this
    exact ih D (deep + 1) (by omega) (by omega)
theorem r_plain {N : Nat} {rT : Int32 → qMem → Option qMem} {d deep : Nat} (hN : 200000 ≤ N) (hT : okT T L) (hd : deep + d = 8) (hi : ∀ d', d = d' + 1 → okR T L (rT (zI ((deep + 1 : Nat) : Int))) (pTest (tcS T L) (tvS T L) (pIn (tcS T L) (tvS T L) d') (pInT (tcS T L) (tvS T L) d'))) : okR T L (fX12_readPlain N rT (zI deep)) (pPlain (tcS T L) (tvS T L) (pIn (tcS T L) (tvS T L) d) (pInT (tcS T L) (tvS T L) d)) := by
  have hM := tkM_le T L
  have hL := hT.1
  have hS := r_sum hN hT d 10 deep hd (by omega)
  have b0 : ∀ n t, gi t 0 36 ≠ -1 → fX12_readPlain_l2 N rT (n + 1) (zI deep) 0 t = some t := fun n t ht => by
    show fX12_readPlain_s2 N rT _ (zI deep) 0 t = _
    unfold fX12_readPlain_s2
    rw [if_pos rfl, fine_f ht, Option.bind_some, if_pos rfl]
  have e2 : ∀ n t, fX12_readPlain_l2 N rT (n + 1) (zI deep) 1 t = (fX12_takes 7 t).bind fun y => fX12_readPlain_l2 N rT n (zI deep) y.1 y.2 := fun n t => by
    show fX12_readPlain_s2 N rT _ (zI deep) 1 t = _
    unfold fX12_readPlain_s2
    rw [if_neg (by decide)]
  refine ⟨fun t ht => ?_, ?_⟩
  · obtain ⟨M, eM⟩ : ∃ k, N = k + 2 := ⟨N - 2, by omega⟩
    unfold fX12_readPlain
    have : fX12_readPlain_l2 N rT N (zI deep) 1 t = fX12_readPlain_l2 N rT (M + 2) (zI deep) 1 t := by rw [← eM]
    rw [this, e2, takes_bad _ ht, Option.bind_some]
    exact b0 M t ht
  · have loop : ∀ (f n : Nat) (g : Bool) (t : qMem) (i l : Nat), 500 ≤ f + i → L + 1 < n + i → Rt T L i l t →
        (∀ b j l', pPlainL (tcS T L) (tvS T L) (pIn (tcS T L) (tvS T L) d) (pInT (tcS T L) (tvS T L) d) f g i l = .ok (b, j, l') → ∃ t', fX12_readPlain_l2 N rT n (zI deep) 1 t = some t' ∧ Rt T L j l' t' ∧ frT t t' ∧ i ≤ j) ∧ (∀ p, pPlainL (tcS T L) (tvS T L) (pIn (tcS T L) (tvS T L) d) (pInT (tcS T L) (tvS T L) d) f g i l = .error p → ∃ t', fX12_readPlain_l2 N rT n (zI deep) 1 t = some t' ∧ gi t' 0 36 = zI (tkF T L p) ∧ frT t t') := by
      intro f
      induction f with
      | zero => intro n g t i l hf hn h; have := h.2.1; omega
      | succ f ih =>
        intro n g t i l hf hn h
        have hiM := h.2.1
        obtain ⟨n, rfl⟩ : ∃ k, n = k + 2 := ⟨n - 2, by omega⟩
        obtain ⟨k1, k2⟩ := r_takes hT h (c := 7) (by omega) (by omega)
        rw [show n + 2 = (n + 1) + 1 from rfl, e2]
        unfold pPlainL
        by_cases q : tcS T L i = 7
        · rw [if_pos q]
          obtain ⟨t1, e1, r1, f1⟩ := k1 q
          have e1' : fX12_takes 7 t = some (1, t1) := e1
          rw [e1', Option.bind_some]
          obtain ⟨io, ie⟩ := ih (n + 1) (!g) t1 (i + 1) l (by omega) (by omega) r1
          refine ⟨fun b' j' l'' hb => ?_, fun p hb => ?_⟩
          · obtain ⟨t3, e3, r3, f3, ij3⟩ := io b' j' l'' hb
            exact ⟨t3, e3, r3, frT_trans f1 f3, by omega⟩
          · obtain ⟨t3, e3, b3, f3⟩ := ie p hb
            exact ⟨t3, e3, b3, frT_trans f1 f3⟩
        · rw [if_neg q]
          have e1' : fX12_takes 7 t = some (0, t) := k2 q
          rw [e1', Option.bind_some]
          show (∀ b j l', _ → ∃ t', fX12_readPlain_l2 N rT (n + 1) (zI deep) 0 t = some t' ∧ _) ∧ (∀ p, _ → ∃ t', fX12_readPlain_l2 N rT (n + 1) (zI deep) 0 t = some t' ∧ _)
          obtain ⟨c1, c2, c3, c4⟩ := code_at hT h
          have r := tc_rng hT i
          have e140 : (zI (tcS T L i) = 100 + 40) = (tcS T L i = 140) := by rw [show (100 + 40 : Int32) = zI 140 from rfl, zI_eq (by omega) (by omega) (by omega) (by omega)]
          have e8' : (zI deep = 8) = (deep = 8) := by rw [show (8 : Int32) = zI 8 from rfl, zI_eq (by omega) (by omega) (by omega) (by omega)]; exact propext (by omega)
          have ef : fX12_readPlain_l2 N rT (n + 1) (zI deep) 0 t = if tcS T L i = 140 then (if deep = 8 then ((fX12_faults t).bind fun y11 => (fX12_readPlain_b53 N rT (zI deep) y11)) else (fX12_readPlain_b53 N rT (zI deep) t)) else ((fX12_readSum N 10 (zI deep) t).bind fun y4 => ((fX12_takes (zI 160) y4).bind fun y6 => (if y6.1 = 0 then ((fX12_takes (zI 162) y6.2).bind fun y8 => (if y8.1 = 0 then ((fX12_must (zI 161) y8.2).bind fun y10 => (fX12_readPlain_b128 N rT (zI deep) y10)) else (fX12_readPlain_b128 N rT (zI deep) y8.2))) else (fX12_readPlain_b128 N rT (zI deep) y6.2)))) := by
            show fX12_readPlain_s2 N rT _ (zI deep) 0 t = _
            unfold fX12_readPlain_s2 fX12_sign
            rw [if_pos rfl, fine_t h.2.2.2.2.1, Option.bind_some, if_neg (by decide)]
            simp only [c1, if_true, c2, nmI, Option.bind_some, e140, e8']
            rfl
          rw [ef]
          have key : (∀ a j l', (if tcS T L i = 140 then pInT (tcS T L) (tvS T L) d i l else pCmp (tcS T L) (tvS T L) (pIn (tcS T L) (tvS T L) d) i l) = .ok (a, j, l') → ∃ t', fX12_readPlain_l2 N rT (n + 1) (zI deep) 0 t = some t' ∧ Rt T L j l' t' ∧ frT t t' ∧ i ≤ j) ∧ (∀ p, (if tcS T L i = 140 then pInT (tcS T L) (tvS T L) d i l else pCmp (tcS T L) (tvS T L) (pIn (tcS T L) (tvS T L) d) i l) = .error p → ∃ t', fX12_readPlain_l2 N rT (n + 1) (zI deep) 0 t = some t' ∧ gi t' 0 36 = zI (tkF T L p) ∧ frT t t') := by
            rw [ef]
            by_cases q4 : tcS T L i = 140
            · rw [if_pos q4, if_pos q4]
              have hlt : i < tkM T L := tc_0 (by omega)
              cases d with
              | zero =>
                rw [if_pos (by omega)]
                obtain ⟨t', e, b, f⟩ := r_faults hT h
                refine ⟨fun b j l' hb => by simp [pInT] at hb, fun p hb => ?_⟩
                have : i = p := by simpa [pInT] using hb
                subst this
                refine ⟨t', ?_, b, f⟩
                rw [e, Option.bind_some]
                unfold fX12_readPlain_b53
                rw [fine_f (bad_ne hT b), Option.bind_some, if_pos rfl]
              | succ d =>
                rw [if_neg (by omega)]
                obtain ⟨s1, s2⟩ := r_step h hlt
                obtain ⟨hb, hg⟩ := hi d rfl
                obtain ⟨ko, ke⟩ := hg _ (i + 1) l s1
                have nx : zI deep + 1 = zI ((deep + 1 : Nat) : Int) := by rw [show (1 : Int32) = zI 1 from rfl, zI_add]; rfl
                have eb : fX12_readPlain_b53 N rT (zI deep) t = (rT (zI ((deep + 1 : Nat) : Int)) (si t 0 34 (gi t 0 34 + 1))).bind fun y7 => (fX12_must (zI 141) y7).bind fun y9 => some y9 := by
                  unfold fX12_readPlain_b53 fX12_sign
                  rw [fine_t h.2.2.2.2.1, Option.bind_some, if_neg (by decide)]
                  simp only [nmM, nx, Option.bind_some]
                  rfl
                rw [eb]
                unfold pInT
                cases hp : pTest (tcS T L) (tvS T L) (pIn (tcS T L) (tvS T L) d) (pInT (tcS T L) (tvS T L) d) (i + 1) l with
                | error p =>
                  obtain ⟨t2, e2, b2, f2⟩ := ke p hp
                  refine ⟨fun b j l' hb => by simp [bd] at hb, fun p' hb => ?_⟩
                  have : p = p' := by simpa [bd] using hb
                  subst this
                  exact ⟨t2, by rw [e2, Option.bind_some, must_bad _ (bad_ne hT b2), Option.bind_some], b2, frT_trans s2 f2⟩
                | ok x =>
                  obtain ⟨b, j, l'⟩ := x
                  obtain ⟨t2, e2, r2, f2, ij⟩ := ko b j l' hp
                  obtain ⟨m1, m2⟩ := r_must hT r2 (c := 141) (by omega) (by omega)
                  show (∀ b' j' l'', (if tcS T L j = 141 then Except.ok (b, j + 1, l') else .error j) = .ok (b', j', l'') → _) ∧ (∀ p, (if tcS T L j = 141 then Except.ok (b, j + 1, l') else .error j) = .error p → _)
                  by_cases qj : tcS T L j = 141
                  · rw [if_pos qj]
                    obtain ⟨t3, e3, r3, f3⟩ := m1 qj
                    refine ⟨fun b' j' l'' hb => ?_, fun p hb => by simp at hb⟩
                    simp only [Except.ok.injEq, Prod.mk.injEq] at hb
                    obtain ⟨p1, p2, p3⟩ := hb
                    subst p1 p2 p3
                    exact ⟨t3, by rw [e2, Option.bind_some, e3, Option.bind_some], r3, frT_trans s2 (frT_trans f2 f3), by omega⟩
                  · rw [if_neg qj]
                    obtain ⟨t3, e3, r3, f3⟩ := m2 qj
                    refine ⟨fun b' j' l'' hb => by simp at hb, fun p hb => ?_⟩
                    have : j = p := by simpa using hb
                    subst this
                    exact ⟨t3, by rw [e2, Option.bind_some, e3, Option.bind_some], r3, frT_trans s2 (frT_trans f2 f3)⟩
            · rw [if_neg q4, if_neg q4]
              obtain ⟨ko, ke⟩ := hS.2 t i l h
              have b128 : ∀ t', gi t' 0 36 ≠ -1 → fX12_readPlain_b128 N rT (zI deep) t' = some t' := fun t' ht' => by
                unfold fX12_readPlain_b128
                rw [hS.1 t' ht', Option.bind_some]
              unfold pCmp
              cases hp : pSum (tcS T L) (tvS T L) (pIn (tcS T L) (tvS T L) d) i l with
              | error p =>
                obtain ⟨t2, e2', b2, f2⟩ := ke p hp
                have bn := bad_ne hT b2
                refine ⟨fun b j l' hb => by simp [bd] at hb, fun p' hb => ?_⟩
                have : p = p' := by simpa [bd] using hb
                subst this
                refine ⟨t2, ?_, b2, f2⟩
                rw [e2', Option.bind_some, takes_bad _ bn, Option.bind_some, if_pos rfl]
                show (fX12_takes (zI 162) t2).bind _ = _
                rw [takes_bad _ bn, Option.bind_some, if_pos rfl]
                show (fX12_must (zI 161) t2).bind _ = _
                rw [must_bad _ bn, Option.bind_some, b128 t2 bn]
              | ok x =>
                obtain ⟨a, j, l'⟩ := x
                obtain ⟨t2, e2', r2, f2, ij⟩ := ko a j l' hp
                obtain ⟨a1, a2⟩ := r_takes hT r2 (c := 160) (by omega) (by omega)
                obtain ⟨b1, b2⟩ := r_takes hT r2 (c := 162) (by omega) (by omega)
                obtain ⟨d1, d2⟩ := r_must hT r2 (c := 161) (by omega) (by omega)
                rw [e2', Option.bind_some]
                show (∀ b' j' l'', (if tcS T L j = 160 ∨ tcS T L j = 162 ∨ tcS T L j = 161 then bd (pSum (tcS T L) (tvS T L) (pIn (tcS T L) (tvS T L) d) (j + 1) l') (fun b j2 l2 => .ok (cmpB (if tcS T L j = 160 then 6 else if tcS T L j = 162 then 7 else 8) a b, j2, l2)) else .error j) = .ok (b', j', l'') → _) ∧ (∀ p, (if tcS T L j = 160 ∨ tcS T L j = 162 ∨ tcS T L j = 161 then bd (pSum (tcS T L) (tvS T L) (pIn (tcS T L) (tvS T L) d) (j + 1) l') (fun b j2 l2 => .ok (cmpB (if tcS T L j = 160 then 6 else if tcS T L j = 162 then 7 else 8) a b, j2, l2)) else .error j) = .error p → _)
                by_cases qj : tcS T L j = 160 ∨ tcS T L j = 162 ∨ tcS T L j = 161
                · rw [if_pos qj]
                  have st : ∃ t3, ((fX12_takes (zI 160) t2).bind fun y6 => (if y6.1 = 0 then ((fX12_takes (zI 162) y6.2).bind fun y8 => (if y8.1 = 0 then ((fX12_must (zI 161) y8.2).bind fun y10 => (fX12_readPlain_b128 N rT (zI deep) y10)) else (fX12_readPlain_b128 N rT (zI deep) y8.2))) else (fX12_readPlain_b128 N rT (zI deep) y6.2))) = fX12_readSum N 10 (zI deep) t3 ∧ Rt T L (j + 1) l' t3 ∧ frT t2 t3 := by
                    have e128 : ∀ t', fX12_readPlain_b128 N rT (zI deep) t' = fX12_readSum N 10 (zI deep) t' := fun t' => by
                      unfold fX12_readPlain_b128
                      cases (fX12_readSum N 10 (zI deep) t') <;> rfl
                    by_cases g1 : tcS T L j = 160
                    · obtain ⟨t3, e3, r3, f3⟩ := a1 g1
                      refine ⟨t3, ?_, r3, f3⟩
                      rw [e3, Option.bind_some, if_neg (show ¬ ((1 : Int32), t3).1 = 0 from n10), e128]
                    · rw [a2 g1, Option.bind_some, if_pos rfl]
                      by_cases g2 : tcS T L j = 162
                      · obtain ⟨t3, e3, r3, f3⟩ := b1 g2
                        refine ⟨t3, ?_, r3, f3⟩
                        show (fX12_takes (zI 162) t2).bind _ = _
                        rw [e3, Option.bind_some, if_neg (show ¬ ((1 : Int32), t3).1 = 0 from n10), e128]
                      · obtain ⟨t3, e3, r3, f3⟩ := d1 (by omega)
                        refine ⟨t3, ?_, r3, f3⟩
                        show (fX12_takes (zI 162) t2).bind _ = _
                        rw [b2 g2, Option.bind_some, if_pos rfl]
                        show (fX12_must (zI 161) t2).bind _ = _
                        rw [e3, Option.bind_some, e128]
                  obtain ⟨t3, e3, r3, f3⟩ := st
                  rw [e3]
                  obtain ⟨mo, me⟩ := hS.2 t3 (j + 1) l' r3
                  cases hp2 : pSum (tcS T L) (tvS T L) (pIn (tcS T L) (tvS T L) d) (j + 1) l' with
                  | error p =>
                    obtain ⟨t4, e4, b4, f4⟩ := me p hp2
                    refine ⟨fun b j l' hb => by simp [bd] at hb, fun p' hb => ?_⟩
                    have : p = p' := by simpa [bd] using hb
                    subst this
                    exact ⟨t4, e4, b4, frT_trans f2 (frT_trans f3 f4)⟩
                  | ok x =>
                    obtain ⟨b, j2, l2⟩ := x
                    obtain ⟨t4, e4, r4, f4, ij4⟩ := mo b j2 l2 hp2
                    refine ⟨fun b' j' l'' hb => ?_, fun p' hb => by simp [bd] at hb⟩
                    simp only [bd, Except.ok.injEq, Prod.mk.injEq] at hb
                    obtain ⟨p1, p2, p3⟩ := hb
                    subst p2 p3
                    exact ⟨t4, e4, r4, frT_trans f2 (frT_trans f3 f4), by omega⟩
                · rw [if_neg qj]
                  refine ⟨fun b j l' hb => by simp at hb, fun p hb => ?_⟩
                  have : j = p := by simpa using hb
                  subst this
                  obtain ⟨t3, e3, b3, f3⟩ := d2 (by omega)
                  refine ⟨t3, ?_, b3, frT_trans f2 f3⟩
                  rw [a2 (by omega), Option.bind_some, if_pos rfl]
                  show (fX12_takes (zI 162) t2).bind _ = _
                  rw [b2 (by omega), Option.bind_some, if_pos rfl]
                  show (fX12_must (zI 161) t2).bind _ = _
                  rw [e3, Option.bind_some, b128 t3 (bad_ne hT b3)]
          rw [ef] at key
          obtain ⟨ko, ke⟩ := key
          cases hp : (if tcS T L i = 140 then pInT (tcS T L) (tvS T L) d i l else pCmp (tcS T L) (tvS T L) (pIn (tcS T L) (tvS T L) d) i l) with
          | error p =>
            refine ⟨fun b j l' hb => by simp [bd] at hb, fun p' hb => ?_⟩
            have : p = p' := by simpa [bd] using hb
            subst this
            exact ke p hp
          | ok x =>
            obtain ⟨a, j, l'⟩ := x
            refine ⟨fun b' j' l'' hb => ?_, fun p' hb => by simp [bd] at hb⟩
            simp only [bd, Except.ok.injEq, Prod.mk.injEq] at hb
            obtain ⟨p1, p2, p3⟩ := hb
            subst p2 p3
            exact ko a j l' hp
    intro t i l h
    exact loop 500 N false t i l (by omega) (by omega) h
theorem r_both {N : Nat} {rT : Int32 → qMem → Option qMem} {p1 : Int32} {P : Nat → Nat → Except Nat (EE × Nat × Nat)} {PT : Nat → Nat → Except Nat (BT × Nat × Nat)} (hN : 200000 ≤ N) (hT : okT T L) (hp : okR T L (fX12_readPlain N rT p1) (pPlain (tcS T L) (tvS T L) P PT)) : okR T L (fX12_readBoth N rT p1) (pBoth (tcS T L) (tvS T L) P PT) := by
  have hM := tkM_le T L
  have hL := hT.1
  have ebad : ∀ n t, gi t 0 36 ≠ -1 → fX12_readBoth_l5 N rT (n + 1) p1 t = some t := by
    intro n t ht
    show fX12_readBoth_s5 N rT _ p1 t = _
    unfold fX12_readBoth_s5
    simp only [Option.bind_some, takes_bad _ ht, if_true]
  have ll : ∀ (f n : Nat) (a : BT) (t : qMem) (i l : Nat), 500 ≤ f + i → L < n + i → Rt T L i l t →
    (∀ b j l', pBothL (tcS T L) (tvS T L) P PT f a i l = .ok (b, j, l') → ∃ t', fX12_readBoth_l5 N rT n p1 t = some t' ∧ Rt T L j l' t' ∧ frT t t' ∧ i ≤ j) ∧ (∀ p, pBothL (tcS T L) (tvS T L) P PT f a i l = .error p → ∃ t', fX12_readBoth_l5 N rT n p1 t = some t' ∧ gi t' 0 36 = zI (tkF T L p) ∧ frT t t') := by
    intro f
    induction f with
    | zero => intro n a t i l hf hn h; have := h.2.1; omega
    | succ f ih =>
      intro n a t i l hf hn h
      have hiM := h.2.1
      obtain ⟨n, rfl⟩ : ∃ k, n = k + 1 := ⟨n - 1, by omega⟩
      obtain ⟨k1, k2⟩ := r_takes hT h (c := 6) (by omega) (by omega)
      unfold pBothL
      by_cases q : tcS T L i = 6
      · rw [if_pos q]
        obtain ⟨t1, e1, r1, f1⟩ := k1 q
        have ee : fX12_readBoth_l5 N rT (n + 1) p1 t = (fX12_readPlain N rT p1 t1).bind (fun y3 => fX12_readBoth_l5 N rT n p1 y3) := by
          show fX12_readBoth_s5 N rT _ p1 t = _
          unfold fX12_readBoth_s5
          have e1' : fX12_takes 6 t = some (1, t1) := e1
          rw [e1', Option.bind_some, if_neg (show ¬ ((1 : Int32), t1).1 = 0 from n10)]
        rw [ee]
        obtain ⟨ko, ke⟩ := hp.2 t1 (i + 1) l r1
        cases hps : pPlain (tcS T L) (tvS T L) P PT (i + 1) l with
        | error p =>
          obtain ⟨t2, e2, b2, f2⟩ := ke p hps
          refine ⟨fun b j l' hb => by simp [bd] at hb, fun p' hb => ?_⟩
          have : p = p' := by simpa [bd] using hb
          subst this
          obtain ⟨n, rfl⟩ : ∃ k, n = k + 1 := ⟨n - 1, by have := r1.2.1; omega⟩
          exact ⟨t2, by rw [e2, Option.bind_some, ebad n t2 (bad_ne hT b2)], b2, frT_trans f1 f2⟩
        | ok x =>
          obtain ⟨b, j, l'⟩ := x
          obtain ⟨t2, e2, r2, f2, ij⟩ := ko b j l' hps
          rw [e2, Option.bind_some]
          show (∀ b' j' l'', pBothL (tcS T L) (tvS T L) P PT f (andB a b) j l' = .ok (b', j', l'') → _) ∧ (∀ p, pBothL (tcS T L) (tvS T L) P PT f (andB a b) j l' = .error p → _)
          obtain ⟨io, ie⟩ := ih n (andB a b) t2 j l' (by omega) (by omega) r2
          refine ⟨fun b' j' l'' hb => ?_, fun p hb => ?_⟩
          · obtain ⟨t3, e3, r3, f3, ij3⟩ := io b' j' l'' hb
            exact ⟨t3, e3, r3, frT_trans f1 (frT_trans f2 f3), by omega⟩
          · obtain ⟨t3, e3, b3, f3⟩ := ie p hb
            exact ⟨t3, e3, b3, frT_trans f1 (frT_trans f2 f3)⟩
      · rw [if_neg q]
        have e0 : fX12_takes 6 t = some (0, t) := k2 q
        have ef : fX12_readBoth_l5 N rT (n + 1) p1 t = some t := by
          show fX12_readBoth_s5 N rT _ p1 t = _
          unfold fX12_readBoth_s5
          rw [e0, Option.bind_some, if_pos rfl]
        refine ⟨fun b j l' hb => ?_, fun p hb => by simp at hb⟩
        simp only [Except.ok.injEq, Prod.mk.injEq] at hb
        obtain ⟨p1, p2, p3⟩ := hb
        subst p1 p2 p3
        exact ⟨t, ef, h, frT_refl t, by omega⟩
  obtain ⟨M, eM⟩ : ∃ k, N = k + 1 := ⟨N - 1, by omega⟩
  have lb' : ∀ t, gi t 0 36 ≠ -1 → fX12_readBoth_l5 N rT N p1 t = some t := fun t ht => by
    have := ebad M t ht
    rwa [← eM] at this
  refine ⟨fun t ht => ?_, fun t i l h => ?_⟩
  · unfold fX12_readBoth
    rw [hp.1 t ht, Option.bind_some, lb' t ht]
  · obtain ⟨ko, ke⟩ := hp.2 t i l h
    unfold pBoth fX12_readBoth
    cases hps : pPlain (tcS T L) (tvS T L) P PT i l with
    | error p =>
      obtain ⟨t2, e2, b2, f2⟩ := ke p hps
      refine ⟨fun b j l' hb => by simp [bd] at hb, fun p' hb => ?_⟩
      have : p = p' := by simpa [bd] using hb
      subst this
      exact ⟨t2, by rw [e2, Option.bind_some, lb' t2 (bad_ne hT b2)], b2, f2⟩
    | ok x =>
      obtain ⟨b, j, l'⟩ := x
      obtain ⟨t2, e2, r2, f2, ij⟩ := ko b j l' hps
      rw [e2, Option.bind_some]
      show (∀ b' j' l'', pBothL (tcS T L) (tvS T L) P PT 500 b j l' = .ok (b', j', l'') → _) ∧ (∀ p, pBothL (tcS T L) (tvS T L) P PT 500 b j l' = .error p → _)
      obtain ⟨io, ie⟩ := ll 500 N b t2 j l' (by omega) (by omega) r2
      refine ⟨fun b' j' l'' hb => ?_, fun p hb => ?_⟩
      · obtain ⟨t3, e3, r3, f3, ij3⟩ := io b' j' l'' hb
        exact ⟨t3, e3, r3, frT_trans f2 f3, by omega⟩
      · obtain ⟨t3, e3, b3, f3⟩ := ie p hb
        exact ⟨t3, e3, b3, frT_trans f2 f3⟩
theorem r_testE {N : Nat} {rT : Int32 → qMem → Option qMem} {p1 : Int32} {P : Nat → Nat → Except Nat (EE × Nat × Nat)} {PT : Nat → Nat → Except Nat (BT × Nat × Nat)} (hN : 200000 ≤ N) (hT : okT T L) (hp : okR T L (fX12_readBoth N rT p1) (pBoth (tcS T L) (tvS T L) P PT)) : okR T L (fX12_readTest_e N rT p1) (pTest (tcS T L) (tvS T L) P PT) := by
  have hM := tkM_le T L
  have hL := hT.1
  have ebad : ∀ n t, gi t 0 36 ≠ -1 → fX12_readTest_l5 N rT (n + 1) p1 t = some t := by
    intro n t ht
    show fX12_readTest_s5 N rT _ p1 t = _
    unfold fX12_readTest_s5
    simp only [Option.bind_some, takes_bad _ ht, if_true]
  have ll : ∀ (f n : Nat) (a : BT) (t : qMem) (i l : Nat), 500 ≤ f + i → L < n + i → Rt T L i l t →
    (∀ b j l', pTestL (tcS T L) (tvS T L) P PT f a i l = .ok (b, j, l') → ∃ t', fX12_readTest_l5 N rT n p1 t = some t' ∧ Rt T L j l' t' ∧ frT t t' ∧ i ≤ j) ∧ (∀ p, pTestL (tcS T L) (tvS T L) P PT f a i l = .error p → ∃ t', fX12_readTest_l5 N rT n p1 t = some t' ∧ gi t' 0 36 = zI (tkF T L p) ∧ frT t t') := by
    intro f
    induction f with
    | zero => intro n a t i l hf hn h; have := h.2.1; omega
    | succ f ih =>
      intro n a t i l hf hn h
      have hiM := h.2.1
      obtain ⟨n, rfl⟩ : ∃ k, n = k + 1 := ⟨n - 1, by omega⟩
      obtain ⟨k1, k2⟩ := r_takes hT h (c := 5) (by omega) (by omega)
      unfold pTestL
      by_cases q : tcS T L i = 5
      · rw [if_pos q]
        obtain ⟨t1, e1, r1, f1⟩ := k1 q
        have ee : fX12_readTest_l5 N rT (n + 1) p1 t = (fX12_readBoth N rT p1 t1).bind (fun y3 => fX12_readTest_l5 N rT n p1 y3) := by
          show fX12_readTest_s5 N rT _ p1 t = _
          unfold fX12_readTest_s5
          have e1' : fX12_takes 5 t = some (1, t1) := e1
          rw [e1', Option.bind_some, if_neg (show ¬ ((1 : Int32), t1).1 = 0 from n10)]
        rw [ee]
        obtain ⟨ko, ke⟩ := hp.2 t1 (i + 1) l r1
        cases hps : pBoth (tcS T L) (tvS T L) P PT (i + 1) l with
        | error p =>
          obtain ⟨t2, e2, b2, f2⟩ := ke p hps
          refine ⟨fun b j l' hb => by simp [bd] at hb, fun p' hb => ?_⟩
          have : p = p' := by simpa [bd] using hb
          subst this
          obtain ⟨n, rfl⟩ : ∃ k, n = k + 1 := ⟨n - 1, by have := r1.2.1; omega⟩
          exact ⟨t2, by rw [e2, Option.bind_some, ebad n t2 (bad_ne hT b2)], b2, frT_trans f1 f2⟩
        | ok x =>
          obtain ⟨b, j, l'⟩ := x
          obtain ⟨t2, e2, r2, f2, ij⟩ := ko b j l' hps
          rw [e2, Option.bind_some]
          show (∀ b' j' l'', pTestL (tcS T L) (tvS T L) P PT f (orB a b) j l' = .ok (b', j', l'') → _) ∧ (∀ p, pTestL (tcS T L) (tvS T L) P PT f (orB a b) j l' = .error p → _)
          obtain ⟨io, ie⟩ := ih n (orB a b) t2 j l' (by omega) (by omega) r2
          refine ⟨fun b' j' l'' hb => ?_, fun p hb => ?_⟩
          · obtain ⟨t3, e3, r3, f3, ij3⟩ := io b' j' l'' hb
            exact ⟨t3, e3, r3, frT_trans f1 (frT_trans f2 f3), by omega⟩
          · obtain ⟨t3, e3, b3, f3⟩ := ie p hb
            exact ⟨t3, e3, b3, frT_trans f1 (frT_trans f2 f3)⟩
      · rw [if_neg q]
        have e0 : fX12_takes 5 t = some (0, t) := k2 q
        have ef : fX12_readTest_l5 N rT (n + 1) p1 t = some t := by
          show fX12_readTest_s5 N rT _ p1 t = _
          unfold fX12_readTest_s5
          rw [e0, Option.bind_some, if_pos rfl]
        refine ⟨fun b j l' hb => ?_, fun p hb => by simp at hb⟩
        simp only [Except.ok.injEq, Prod.mk.injEq] at hb
        obtain ⟨p1, p2, p3⟩ := hb
        subst p1 p2 p3
        exact ⟨t, ef, h, frT_refl t, by omega⟩
  obtain ⟨M, eM⟩ : ∃ k, N = k + 1 := ⟨N - 1, by omega⟩
  have lb' : ∀ t, gi t 0 36 ≠ -1 → fX12_readTest_l5 N rT N p1 t = some t := fun t ht => by
    have := ebad M t ht
    rwa [← eM] at this
  refine ⟨fun t ht => ?_, fun t i l h => ?_⟩
  · unfold fX12_readTest_e
    rw [hp.1 t ht, Option.bind_some, lb' t ht]
  · obtain ⟨ko, ke⟩ := hp.2 t i l h
    unfold pTest fX12_readTest_e
    cases hps : pBoth (tcS T L) (tvS T L) P PT i l with
    | error p =>
      obtain ⟨t2, e2, b2, f2⟩ := ke p hps
      refine ⟨fun b j l' hb => by simp [bd] at hb, fun p' hb => ?_⟩
      have : p = p' := by simpa [bd] using hb
      subst this
      exact ⟨t2, by rw [e2, Option.bind_some, lb' t2 (bad_ne hT b2)], b2, f2⟩
    | ok x =>
      obtain ⟨b, j, l'⟩ := x
      obtain ⟨t2, e2, r2, f2, ij⟩ := ko b j l' hps
      rw [e2, Option.bind_some]
      show (∀ b' j' l'', pTestL (tcS T L) (tvS T L) P PT 500 b j l' = .ok (b', j', l'') → _) ∧ (∀ p, pTestL (tcS T L) (tvS T L) P PT 500 b j l' = .error p → _)
      obtain ⟨io, ie⟩ := ll 500 N b t2 j l' (by omega) (by omega) r2
      refine ⟨fun b' j' l'' hb => ?_, fun p hb => ?_⟩
      · obtain ⟨t3, e3, r3, f3, ij3⟩ := io b' j' l'' hb
        exact ⟨t3, e3, r3, frT_trans f2 f3, by omega⟩
      · obtain ⟨t3, e3, b3, f3⟩ := ie p hb
        exact ⟨t3, e3, b3, frT_trans f2 f3⟩
theorem r_test {N : Nat} (hN : 200000 ≤ N) (hT : okT T L) : ∀ (d D deep : Nat), deep + d = 8 → d < D → okR T L (fX12_readTest N D (zI deep)) (pTest (tcS T L) (tvS T L) (pIn (tcS T L) (tvS T L) d) (pInT (tcS T L) (tvS T L) d)) := by
  intro d
  induction d with
  | zero =>
    intro D deep hd hD
    obtain ⟨D, rfl⟩ : ∃ k, D = k + 1 := ⟨D - 1, by omega⟩
    exact r_testE hN hT (r_both hN hT (r_plain hN hT hd (fun d' hd' => by omega)))
  | succ d ih =>
    intro D deep hd hD
    obtain ⟨D, rfl⟩ : ∃ k, D = k + 1 := ⟨D - 1, by omega⟩
    refine r_testE hN hT (r_both hN hT (r_plain hN hT hd (fun d' hd' => ?_)))
    have : d' = d := by omega
    subst this
    exact ih D (deep + 1) (by omega) (by omega)
end RR
