/-! the reference splits a text: all of it -/
section SQ
variable {T U : Nat → Int} {L : Nat}
def spF (τ t : qMem) : Prop := ∀ k j, ¬ ((k = 0 ∧ j = 33) ∨ k = 20 ∨ k = 21 ∨ k = 22) → gi t k j = gi τ k j
def spI (T U : Nat → Int) (L : Nat) (τ : qMem) (k m : Nat) (t : qMem) : Prop := spF τ t ∧ gi t 0 33 = zI m ∧ m ≤ tkM T L ∧ k ≤ L ∧ sk T L k = tkF T L m ∧ ∀ q, q < m → gi t 20 q = zI (tcS T L q) ∧ gi t 21 q = zI (tvS T L q) ∧ gi t 22 q = zI (tkF T L q)
def spQ (T : Nat → Int) (L : Nat) (τ t : qMem) : Prop := spF τ t ∧ gi t 0 33 = zI (tkM T L) ∧ ∀ q, q ≤ tkM T L → gi t 20 q = zI (tcS T L q) ∧ gi t 21 q = zI (tvS T L q) ∧ gi t 22 q = zI (tkF T L q)
theorem tc_end {m : Nat} (h : m = tkM T L) : tcS T L m = 0 ∧ tvS T L m = 0 ∧ tkF T L m = L := by
  have hl : ¬ tkF T L m < L := fun z => by have := tk_lt.mpr z; omega
  have k3 : kd T L (tkF T L m) = 3 := by unfold kd; rw [if_neg hl]
  have := tkF_le T L m
  refine ⟨?_, ?_, by omega⟩
  · unfold tcS cdP; rw [if_neg (by omega), if_neg (by omega), if_neg (by omega)]
  · unfold tvS vlP; rw [if_neg (by omega)]
/-- a number's digits -/
theorem r_s169 (N : Nat) {c7 : Int32 → Int32 → qMem → Option qMem} {τ : qMem} {k to m : Nat} {Q : qMem → Prop} (hL : L ≤ 400) (hs : sgn T U L) (h18 : ∀ j, j < L → gi τ 18 j = zI (U j)) (hk : kd T L k = 1) (hto : to = te T L k) (hm : m ≤ 400)
    (hQ : ∀ t, (∀ a b, ¬ (a = 21 ∧ b = m) → gi t a b = gi τ a b) → gi t 21 m = zI (vN T k (to - k)) → Ho (fX12_splits_b248 N c7 (zI L) (zI to) t) Q) :
    ∀ (d n c : Nat) (t : qMem), c + d = to - k → d < n → (∀ a b, ¬ (a = 21 ∧ b = m) → gi t a b = gi τ a b) → gi t 21 m = zI (vN T k c) → gi τ 0 33 = zI m → Ho (fX12_splits_l169 N c7 n (zI L) (zI (U k)) (zI to) (zI ((k + c : Nat) : Int)) t) Q := by
  have hrun := te_run (T := T) (L := L) (p := k) (by omega)
  have hkL := (kd_lt (T := T) (L := L) (p := k)).mp (by omega)
  rw [← hto, hk] at hrun
  have hd1 : fX12_isDigit (zI (U k)) = some (bI true) := by rw [r_isDigit hs hkL, (kd_1 hkL).mp hk]
  have dg : ∀ r, k ≤ r → r < to → r < L ∧ 48 ≤ T r ∧ T r ≤ 57 ∧ U r = T r := fun r r1 r2 => by
    have e := hrun.2.2.1 r r1 r2
    have hlt := (kd_lt (T := T) (L := L) (p := r)).mp (by omega)
    have := of_decide_eq_true ((kd_1 hlt).mp e)
    obtain ⟨u1, u2, u3⟩ := hs r hlt
    refine ⟨hlt, this.1, this.2, ?_⟩
    rw [u3] at this ⊢
    by_cases z : U r < 0
    · rw [if_pos z] at this; omega
    · rw [if_neg z]
  have hvv := fun c (hc : c ≤ to - k) => hv (T := T) (p := k) c (fun r hr => ⟨(dg (k + r) (by omega) (by omega)).2.1, (dg (k + r) (by omega) (by omega)).2.2.1⟩)
  intro d
  induction d with
  | zero =>
    intro n c t hc hn hf h21 h33
    obtain ⟨n, rfl⟩ : ∃ x, n = x + 1 := ⟨n - 1, by omega⟩
    show Ho (fX12_splits_s169 N c7 _ (zI L) (zI (U k)) (zI to) _ t) Q
    unfold fX12_splits_s169
    have c1 : (zI to ≤ zI ((k + c : Nat) : Int)) = True := by rw [zI_le (by omega) (by omega) (by omega) (by omega)]; exact eq_true (by omega)
    simp only [c1, if_true]
    exact hQ t hf (by rw [h21, show c = to - k by omega])
  | succ d ih =>
    intro n c t hc hn hf h21 h33
    obtain ⟨n, rfl⟩ : ∃ x, n = x + 1 := ⟨n - 1, by omega⟩
    show Ho (fX12_splits_s169 N c7 _ (zI L) (zI (U k)) (zI to) _ t) Q
    unfold fX12_splits_s169
    obtain ⟨d1, d2, d3, d4⟩ := dg (k + c) (by omega) (by omega)
    have hb := (hvv c (by omega)).1
    have g33 : gi t 0 33 = zI m := (hf _ _ (by omega)).trans h33
    have g18 : gi t 18 (k + c) = zI (T (k + c)) := by rw [hf _ _ (by omega), h18 _ d1, d4]
    have c1 : (zI to ≤ zI ((k + c : Nat) : Int)) = False := by rw [zI_le (by omega) (by omega) (by omega) (by omega)]; exact eq_false (by omega)
    have k1 : (ck (zI m) 401 = true) = True := zI_ckT (by omega) (by omega) (by omega)
    have z1 : (zI m).toNatClampNeg = m := by rw [zI_clamp (by omega) (by omega)]; omega
    have k2 : (ck (zI ((k + c : Nat) : Int)) 400 = true) = True := zI_ckT (by omega) (by omega) (by omega)
    have z2 : (zI ((k + c : Nat) : Int)).toNatClampNeg = k + c := by rw [zI_clamp (by omega) (by omega)]; omega
    have c2 : (zI (vN T k c) ≤ 1000000) = (vN T k c ≤ 1000000) := by rw [show (1000000 : Int32) = zI 1000000 from rfl, zI_le (by omega) (by omega) (by omega) (by omega)]
    have nx : zI ((k + c : Nat) : Int) + 1 = zI ((k + (c + 1) : Nat) : Int) := by rw [show (1 : Int32) = zI 1 from rfl, zI_add]; rfl
    simp only [c1, if_false, hd1, Option.bind_some, if_bI, if_true, g33, k1, z1, h21, c2, k2, z2, g18]
    have fin : ∀ x : Int32, x = zI (vN T k (c + 1)) → Ho (fX12_splits_b241 N c7 (fX12_splits_l169 N c7 n) (zI L) (zI (U k)) (zI to) (zI ((k + c : Nat) : Int)) (zI m) x t) Q := by
      intro x hx
      unfold fX12_splits_b241
      simp only [k1, if_true, z1, nmM, nx]
      refine ih n (c + 1) _ (by omega) (by omega) (fun a b hab => by rw [gi_si, if_neg hab]; exact hf a b hab) (by rw [gi_si, if_pos ⟨rfl, rfl⟩]; exact hx) h33
    by_cases q : vN T k c ≤ 1000000
    · rw [if_pos q]
      refine fin _ ?_
      rw [show (10 : Int32) = zI 10 from rfl, show (48 : Int32) = zI 48 from rfl, zI_mul, zI_add, zI_sub]
      congr 1
      show _ = (if 1000000 < vN T k c then vN T k c else 10 * vN T k c + T (k + c) - 48)
      rw [if_neg (by omega)]
    · rw [if_neg q]
      refine fin _ ?_
      congr 1
      show _ = (if 1000000 < vN T k c then vN T k c else 10 * vN T k c + T (k + c) - 48)
      rw [if_pos (by omega)]
theorem r_splitsL (N : Nat) (hN : 200000 ≤ N) {τ : qMem} (hT : okT T L) (hs : sgn T U L) (h18 : ∀ j, j < L → gi τ 18 j = zI (U j)) (h17 : ∀ j x, wordsL[j]? = some x → gi τ 17 j = zI x) : ∀ (d n k m : Nat) (t : qMem), L ≤ k + d → d < n → spI T U L τ k m t → Ho (fX12_splits_l7 N n (zI L) (zI k) t) (spQ T L τ) := by
  have hM := tkM_le T L
  have hL := hT.1
  intro d
  induction d using Nat.strongRecOn with
  | ind d ih =>
    intro n k m t hd hn hI
    obtain ⟨sf, s33, sm, skL, ssk, sq⟩ := hI
    obtain ⟨n, rfl⟩ : ∃ x, n = x + 1 := ⟨n - 1, by omega⟩
    show Ho (fX12_splits_s7 N _ (zI L) (zI k) t) _
    unfold fX12_splits_s7
    have c1 : (zI L ≤ zI k) = (L ≤ k) := by rw [zI_le (by omega) (by omega) (by omega) (by omega)]; exact propext (by omega)
    have k1 : (ck (zI m) 401 = true) = True := zI_ckT (by omega) (by omega) (by omega)
    have z1 : (zI m).toNatClampNeg = m := by rw [zI_clamp (by omega) (by omega)]; omega
    simp only [c1, s33]
    by_cases q : L ≤ k
    · rw [if_pos q]
      have gm1 : gi (si t 22 m (zI L)) 0 33 = zI m := by rw [gi_si, if_neg (by omega)]; exact s33
      have gm2 : gi (si (si t 22 m (zI L)) 20 m 0) 0 33 = zI m := by rw [gi_si, if_neg (by omega)]; exact gm1
      simp only [k1, if_true, z1, nmM, gm1, gm2]
      have eF : tkF T L m = L := by
        rw [← ssk, sk_rec, if_neg (by omega)]
        omega
      have em : m = tkM T L := by
        have : ¬ m < tkM T L := fun z => by have := tk_lt.mp z; omega
        omega
      obtain ⟨t1, t2, t3⟩ := tc_end em
      refine Ho_some ⟨fun a b hab => ?_, ?_, fun i hi => ?_⟩
      · rw [gi_si, if_neg (by omega), gi_si, if_neg (by omega), gi_si, if_neg (by omega)]; exact sf a b hab
      · rw [gi_si, if_neg (by omega), gi_si, if_neg (by omega), gi_si, if_neg (by omega), s33, em]
      · by_cases e : i = m
        · subst e
          rw [t1, t2, t3]
          refine ⟨?_, ?_, ?_⟩
          · rw [gi_si, if_neg (by omega), gi_si, if_pos ⟨rfl, rfl⟩]; rfl
          · rw [gi_si, if_pos ⟨rfl, rfl⟩]; rfl
          · rw [gi_si, if_neg (by omega), gi_si, if_neg (by omega), gi_si, if_pos ⟨rfl, rfl⟩]
        · obtain ⟨a1, a2, a3⟩ := sq i (by omega)
          refine ⟨?_, ?_, ?_⟩
          · rw [gi_si, if_neg (by omega), gi_si, if_neg (by omega), gi_si, if_neg (by omega)]; exact a1
          · rw [gi_si, if_neg (by omega), gi_si, if_neg (by omega), gi_si, if_neg (by omega)]; exact a2
          · rw [gi_si, if_neg (by omega), gi_si, if_neg (by omega), gi_si, if_neg (by omega)]; exact a3
    · rw [if_neg q]
      have hkL : k < L := by omega
      have k0 : (ck (zI k) 400 = true) = True := zI_ckT (by omega) (by omega) (by omega)
      have z0 : (zI k).toNatClampNeg = k := by rw [zI_clamp (by omega) (by omega)]; omega
      have g18 : gi t 18 k = zI (U k) := by rw [sf _ _ (by omega)]; exact h18 k hkL
      obtain ⟨u1, u2, u3⟩ := hs k hkL
      have c3 : (zI (U k) = 32) = (T k = 32) := by
        rw [show (32 : Int32) = zI 32 from rfl, zI_eq (by omega) (by omega) (by omega) (by omega), u3]
        exact propext (by split <;> omega)
      have nx : zI k + 1 = zI ((k + 1 : Nat) : Int) := by rw [show (1 : Int32) = zI 1 from rfl, zI_add]; rfl
      simp only [k0, if_true, z0, g18, nmI, c3, nx]
      by_cases q32 : T k = 32
      · rw [if_pos q32]
        refine ih (d - 1) (by omega) n (k + 1) m t (by omega) (by omega) ⟨sf, s33, sm, by omega, ?_, sq⟩
        rw [← ssk]
        conv => rhs; rw [sk_rec, if_pos ⟨hkL, q32⟩]
      · rw [if_neg q32]
        have eF : tkF T L m = k := by rw [← ssk, sk_rec, if_neg (fun z => q32 z.2)]
        have hm : m < tkM T L := tk_lt.mpr (by omega)
        have h18t : ∀ j, j < L → gi t 18 j = zI (U j) := fun j hj => by rw [sf _ _ (by omega)]; exact h18 j hj
        have ter := te_rng (T := T) (L := L) (p := k) (by omega)
        -- what becomes of a token
        have b248 : ∀ s : qMem, (∀ a b, ¬ ((a = 20 ∨ a = 21 ∨ a = 22) ∧ b = m) → gi s a b = gi t a b) → gi s 20 m = zI (tcS T L m) → gi s 21 m = zI (tvS T L m) → gi s 22 m = zI (tkF T L m) → Ho (fX12_splits_b248 N (fX12_splits_l7 N n) (zI L) (zI (te T L k)) s) (spQ T L τ) := by
          intro s hf a20 a21 a22
          unfold fX12_splits_b248
          simp only [nmM]
          refine ih (L - te T L k) (by omega) n (te T L k) (m + 1) _ (by omega) (by omega) ⟨fun a b hab => ?_, ?_, by omega, by omega, ?_, fun i hi => ?_⟩
          · rw [gi_si, if_neg (by omega), hf a b (by omega)]; exact sf a b hab
          · rw [gi_si, if_pos ⟨rfl, rfl⟩, hf _ _ (by omega), s33, show (1 : Int32) = zI 1 from rfl, zI_add]; rfl
          · show sk T L (te T L k) = sk T L (te T L (tkF T L m))
            rw [eF]
          · by_cases e : i = m
            · subst e
              exact ⟨by rw [gi_si, if_neg (by omega)]; exact a20, by rw [gi_si, if_neg (by omega)]; exact a21, by rw [gi_si, if_neg (by omega)]; exact a22⟩
            · obtain ⟨a1, a2, a3⟩ := sq i (by omega)
              exact ⟨by rw [gi_si, if_neg (by omega), hf _ _ (by omega)]; exact a1, by rw [gi_si, if_neg (by omega), hf _ _ (by omega)]; exact a2, by rw [gi_si, if_neg (by omega), hf _ _ (by omega)]; exact a3⟩
        have b100 : Ho (fX12_splits_b100 N (fX12_splits_l7 N n) (zI L) (zI k) (zI (U k)) (zI (te T L k)) t) (spQ T L τ) := by
          unfold fX12_splits_b100
          have gm1 : gi (si t 22 m (zI k)) 0 33 = zI m := by rw [gi_si, if_neg (by omega)]; exact s33
          have gm2 : gi (si (si t 22 m (zI k)) 21 m 0) 0 33 = zI m := by rw [gi_si, if_neg (by omega)]; exact gm1
          simp only [s33, k1, if_true, z1, nmM, gm1, gm2, r_isSmall (N := N) hs hkL, r_isDigit hs hkL, Option.bind_some, if_bI]
          generalize ht2 : si (si t 22 m (zI k)) 21 m 0 = t2 at *
          have g2 : ∀ a b, gi t2 a b = if a = 21 ∧ b = m then 0 else if a = 22 ∧ b = m then zI k else gi t a b := by intro a b; rw [← ht2]; simp only [gi_si]
          have b165 : ∀ cd : Int, cd = tcS T L m → Ho (fX12_splits_b165 N (fX12_splits_l7 N n) (zI L) (zI k) (zI (U k)) (zI (te T L k)) (zI m) (zI cd) t2) (spQ T L τ) := by
            intro cd hcd
            unfold fX12_splits_b165
            simp only [k1, if_true, z1, nmM]
            have g3 : ∀ a b, gi (si t2 20 m (zI cd)) a b = if a = 20 ∧ b = m then zI cd else if a = 21 ∧ b = m then 0 else if a = 22 ∧ b = m then zI k else gi t a b := by intro a b; rw [gi_si, g2]
            generalize si t2 20 m (zI cd) = t3 at *
            have nz : ¬ N = 0 := by omega
            by_cases q1 : kd T L k = 1
            · refine r_s169 (T := T) (U := U) (L := L) N hL hs (τ := t3) (k := k) (to := te T L k) (m := m) (fun j hj => ?_) q1 rfl (by omega) (fun s hf h21 => ?_) (te T L k - k) N 0 t3 (by omega) (by omega) (fun _ _ _ => rfl) ?_ ?_
              · rw [g3, if_neg (by omega), if_neg (by omega), if_neg (by omega)]; exact h18t j hj
              · refine b248 s (fun a b hab => ?_) ?_ ?_ ?_
                · rw [hf a b (by omega), g3, if_neg (by omega), if_neg (by omega), if_neg (by omega)]
                · rw [hf _ _ (by omega), g3, if_pos ⟨rfl, rfl⟩, hcd]
                · rw [h21]
                  unfold tvS vlP
                  rw [eF, if_pos q1]
                · rw [hf _ _ (by omega), g3, if_neg (by omega), if_neg (by omega), if_pos ⟨rfl, rfl⟩, eF]
              · rw [g3, if_neg (by omega), if_pos ⟨rfl, rfl⟩]; rfl
              · rw [g3, if_neg (by omega), if_neg (by omega), if_neg (by omega)]; exact s33
            · obtain ⟨M, eM⟩ : ∃ x, N = x + 1 := ⟨N - 1, by omega⟩
              have e169 : fX12_splits_l169 N (fX12_splits_l7 N n) N (zI L) (zI (U k)) (zI (te T L k)) (zI k) t3 = fX12_splits_b248 N (fX12_splits_l7 N n) (zI L) (zI (te T L k)) t3 := by
                conv => lhs; rw [show fX12_splits_l169 N (fX12_splits_l7 N n) N = fX12_splits_l169 N (fX12_splits_l7 N n) (M + 1) by rw [← eM]]
                show fX12_splits_s169 N (fX12_splits_l7 N n) _ (zI L) (zI (U k)) (zI (te T L k)) (zI k) t3 = _
                unfold fX12_splits_s169
                rw [r_isDigit hs hkL, Option.bind_some, if_bI, if_neg (fun z => q1 ((kd_1 hkL).mpr z))]
                split <;> rfl
              rw [e169]
              refine b248 t3 (fun a b hab => ?_) ?_ ?_ ?_
              · rw [g3, if_neg (by omega), if_neg (by omega), if_neg (by omega)]
              · rw [g3, if_pos ⟨rfl, rfl⟩, hcd]
              · rw [g3, if_neg (by omega), if_pos ⟨rfl, rfl⟩]
                unfold tvS vlP
                rw [eF, if_neg q1]
                rfl
              · rw [g3, if_neg (by omega), if_neg (by omega), if_pos ⟨rfl, rfl⟩, eF]
          have ecd : tcS T L m = if kd T L k = 0 then wcode (slc T k (te T L k - k)) else if kd T L k = 1 then 50 else if kd T L k = 2 then 100 + T k else 0 := by
            unfold tcS cdP
            rw [eF]
          by_cases q0 : isLo (T k) = true
          · rw [if_pos q0]
            have ew : fX12_wordOf N (zI k) (zI (te T L k)) t2 = some (zI (wcode (slc T k (te T L k - k)))) := r_wordOf hN hL hs (fun j hj => by rw [g2, if_neg (by omega), if_neg (by omega)]; exact h18t j hj) (fun j x hx => by rw [g2, if_neg (by omega), if_neg (by omega), sf _ _ (by omega)]; exact h17 j x hx) (by omega) (by omega)
            rw [ew, Option.bind_some]
            exact b165 _ (by rw [ecd, if_pos ((kd_0 hkL).mpr q0)])
          · rw [if_neg q0]
            have n0 : kd T L k ≠ 0 := fun z => q0 ((kd_0 hkL).mp z)
            by_cases q1 : isDg (T k) = true
            · rw [if_pos q1]
              exact b165 50 (by rw [ecd, if_neg n0, if_pos ((kd_1 hkL).mpr q1)])
            · rw [if_neg q1]
              have n1 : kd T L k ≠ 1 := fun z => q1 ((kd_1 hkL).mp z)
              have k2 : kd T L k = 2 := by
                have := (kd_lt (T := T) (L := L) (p := k)).mpr hkL
                omega
              have eb : (100 : Int32) + (zI (U k) &&& 255) = zI (100 + T k) := by
                have ez : zI (U k) = (zI (U k)).toInt8.toInt32 := by
                  have t := byte_tabl ⟨(U k + 128).toNat, by omega⟩
                  apply Int32.toInt_inj.mp
                  rw [Int8.toInt_toInt32, Int32.toInt_toInt8, zI_toInt (by omega) (by omega)]
                  rw [Int.bmod_eq_of_le (by omega) (by omega)]
                obtain ⟨z, _, _, e1, e2⟩ := byte_and ez
                have ezz : U k = z := zI_inj (by omega) (by omega) (by omega) (by omega) e1
                rw [e2, ← ezz, ← u3, show (100 : Int32) = zI 100 from rfl, zI_add]
              rw [eb]
              exact b165 (100 + T k) (by rw [ecd, if_neg n0, if_neg n1, if_pos k2])
        rw [r_isSmall (N := N) hs hkL, Option.bind_some, if_bI]
        by_cases q0 : isLo (T k) = true
        · rw [if_pos q0, r_s43 N hL hs h18t (L - (k + 1)) N (k + 1) (by omega) (by omega) (by omega)]
          have kk := (kd_0 hkL).mpr q0
          have et : te T L k = rnN T L 0 (L + 1) (k + 1) := by unfold te; rw [if_neg (by omega), if_pos (by omega), kk]
          unfold fX12_splits_b68
          rw [r_isDigit hs hkL, Option.bind_some, if_bI, if_neg (fun z => by have := (kd_1 hkL).mpr z; omega), ← et]
          exact b100
        · rw [if_neg q0]
          unfold fX12_splits_b68
          rw [r_isDigit hs hkL, Option.bind_some, if_bI]
          have n0 : kd T L k ≠ 0 := fun z => q0 ((kd_0 hkL).mp z)
          by_cases q1 : isDg (T k) = true
          · have kk := (kd_1 hkL).mpr q1
            have et : te T L k = rnN T L 1 (L + 1) (k + 1) := by unfold te; rw [if_neg (by omega), if_pos (by omega), kk]
            rw [if_pos q1, r_s75 N hL hs h18t (L - (k + 1)) N (k + 1) (by omega) (by omega) (by omega), ← et]
            exact b100
          · have n1 : kd T L k ≠ 1 := fun z => q1 ((kd_1 hkL).mp z)
            have k2 : kd T L k = 2 := by
              have := (kd_lt (T := T) (L := L) (p := k)).mpr hkL
              omega
            rw [if_neg q1, ← te_2 k2]
            exact b100
theorem r_splits {N : Nat} {τ : qMem} (hN : 200000 ≤ N) (hT : okT T L) (hs : sgn T U L) (h18 : ∀ j, j < L → gi τ 18 j = zI (U j)) (h17 : ∀ j x, wordsL[j]? = some x → gi τ 17 j = zI x) : Ho (fX12_splits N (zI L) τ) (spQ T L τ) := by
  have hL := hT.1
  unfold fX12_splits
  simp only [nmM]
  have hst := r_splitsL N hN (τ := si τ 0 33 0) hT hs (fun j hj => by rw [gi_si, if_neg (by omega)]; exact h18 j hj) (fun j x hx => by rw [gi_si, if_neg (by omega)]; exact h17 j x hx) L N 0 0 (si τ 0 33 0) (by omega) (by omega) ⟨fun _ _ _ => rfl, by rw [gi_si, if_pos ⟨rfl, rfl⟩]; rfl, by omega, by omega, rfl, fun q hq => by omega⟩
  refine Ho_mono hst (fun t ht => ⟨fun a b hab => ?_, ht.2⟩)
  rw [ht.1 a b hab, gi_si, if_neg (by omega)]
end SQ
