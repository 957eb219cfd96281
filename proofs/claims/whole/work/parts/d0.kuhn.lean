/-! who may be next: one is joined, both ways -/
theorem bt_or1 {w : Int32} {n j : Nat} (hn : n < 32) (hj : j < 32) : bt (w ||| ((1 : Int32) <<< (zI n &&& 31))) j = (bt w j || decide (j = n)) := by
  rw [b_or, show zI (n : Int) = nI n from rfl, wd_one hn, bt_wd _ hj]
theorem t_and1 {w : Int32} {n : Nat} (hn : n < 32) : (w &&& ((1 : Int32) <<< (zI n &&& 31)) = 0) = (bt w n = false) := by
  have := wd_test (bt w) hn
  rw [wd_bt] at this
  exact this
theorem t_sh1 {w : Int32} {n : Nat} (hn : n < 32) : (w >>> (zI n &&& 31)) &&& 1 = bI (bt w n) := by
  have := wd_sbit (bt w) hn
  rw [wd_bt] at this
  exact this
theorem bt_nand {w v : Int32} {n : Nat} (hn : n < 32) : bt (w &&& (v ^^^ (-1))) n = (bt w n && !bt v n) := by
  rw [b_and, b_xor, b_m1 n hn]
  cases bt v n <;> cases bt w n <;> rfl
def vcN (w : Int32) : Nat := fb_ct (bt w) 24
theorem vc_le (w : Int32) : vcN w ≤ 24 := fb_ct_le _ _
theorem vc_add {w : Int32} {n : Nat} (hn : n < 24) (h : bt w n = false) : vcN (w ||| ((1 : Int32) <<< (zI n &&& 31))) = vcN w + 1 := by
  unfold vcN
  have e : fb_ct (bt (w ||| ((1 : Int32) <<< (zI n &&& 31)))) 24 = fb_ct (fun k => if k = n then true else bt w k) 24 := fb_ct_cong (fun k hk => by
    rw [bt_or1 (by omega) (by omega)]
    by_cases q : k = n
    · rw [if_pos q, decide_eq_true q, Bool.or_true]
    · rw [if_neg q, decide_eq_false q, Bool.or_false])
  rw [e]
  have := fb_ct_upd (bt w) true hn
  rw [h] at this
  simpa using this
/-- what both hold while they join -/
def jsR (R H : Nat) (σ τ : qMem) : Prop := (∀ i, i < 24 → gi σ R i = gi τ 10 i) ∧ (∀ i k, i < 24 → H ≤ k → k < 24 → bt (gi τ 10 i) k = false) ∧ (∀ k, k < 24 → gi σ 76 k = gi τ 12 k ∧ (gi τ 12 k = -1 ∨ ∃ a : Nat, a < 24 ∧ gi τ 12 k = zI a)) ∧ gi σ 73 4 = gi τ 0 20 ∧ gi τ 2 300 = zI H
def jfC (σ σ' : qMem) : Prop := ∀ k j, ¬ ((k = 73 ∧ j = 4) ∨ k = 76) → gi σ' k j = gi σ k j
def jfM (τ τ' : qMem) : Prop := ∀ k j, ¬ ((k = 0 ∧ j = 20) ∨ k = 11 ∨ k = 12) → gi τ' k j = gi τ k j
theorem jfC_t {a b c : qMem} (h : jfC a b) (h2 : jfC b c) : jfC a c := fun k j hk => (h2 k j hk).trans (h k j hk)
theorem jfM_t {a b c : qMem} (h : jfM a b) (h2 : jfM b c) : jfM a c := fun k j hk => (h2 k j hk).trans (h k j hk)
def simJ (R H : Nat) (σ τ : qMem) (a b : Option (Int32 × qMem)) : Prop := ∃ v σ' τ', a = some (v, σ') ∧ b = some (v, τ') ∧ (v = 0 ∨ v = 1) ∧ jsR R H σ' τ' ∧ jfC σ σ' ∧ jfM τ τ' ∧ vcN (gi τ 0 20) ≤ vcN (gi τ' 0 20)
theorem simJ_t {R H : Nat} {σ τ σ1 τ1 : qMem} {a b : Option (Int32 × qMem)} (h : simJ R H σ1 τ1 a b) (f : jfC σ σ1) (g : jfM τ τ1) (v : vcN (gi τ 0 20) ≤ vcN (gi τ1 0 20)) : simJ R H σ τ a b := by
  obtain ⟨x, s, t, e1, e2, e3, e4, e5, e6, e7⟩ := h
  exact ⟨x, s, t, e1, e2, e3, e4, jfC_t f e5, jfM_t g e6, by omega⟩
theorem sim_one {N R H : Nat} (hN : 200000 ≤ N) (hR : R = 74 ∨ R = 75) (hH : H ≤ 24) : ∀ (m p Dc Dr i : Nat) (σ τ : qMem), 24 ≤ vcN (gi τ 0 20) + m → p + m ≤ 24 → m < Dc → m < Dr → i < 24 → jsR R H σ τ → simJ R H σ τ (fX4_joinOne N Dc R (zI i) (zI p) σ) (fX12_gives N Dr (zI i) τ) := by
  intro m
  induction m using Nat.strongRecOn with
  | ind m ih =>
    intro p Dc Dr i σ τ hv hp hDc hDr hi hj
    obtain ⟨Dc, rfl⟩ : ∃ x, Dc = x + 1 := ⟨Dc - 1, by omega⟩
    obtain ⟨Dr, rfl⟩ : ∃ x, Dr = x + 1 := ⟨Dr - 1, by omega⟩
    have e1 : fX4_joinOne N (Dc + 1) R (zI i) (zI p) σ = fX4_joinOne_l21 N (fX4_joinOne N Dc) R N (zI i) (zI p) 0 σ := by
      show fX4_joinOne_e N _ R (zI i) (zI p) σ = _
      unfold fX4_joinOne_e
      have c1 : (zI i < 0) = False := by rw [show (0 : Int32) = zI 0 from rfl, zI_lt (by omega) (by omega) (by omega) (by omega)]; exact eq_false (by omega)
      have c2 : (24 ≤ zI i) = False := by rw [show (24 : Int32) = zI 24 from rfl, zI_le (by omega) (by omega) (by omega) (by omega)]; exact eq_false (by omega)
      have c3 : (zI p ≤ 24) = True := by rw [show (24 : Int32) = zI 24 from rfl, zI_le (by omega) (by omega) (by omega) (by omega)]; exact eq_true (by omega)
      simp only [c1, c2, c3, if_false, if_true]
    have e2 : fX12_gives N (Dr + 1) (zI i) τ = fX12_gives_l2 N (fX12_gives N Dr) N (zI i) 0 τ := rfl
    rw [e1, e2]
    have ki : (ck (zI i) 24 = true) = True := zI_ckT (by omega) (by omega) (by omega)
    have zi : (zI i).toNatClampNeg = i := by rw [zI_clamp (by omega) (by omega)]; omega
    have loop : ∀ (d k f g : Nat) (s t : qMem), k + d = 24 → d < f → d < g → vcN (gi τ 0 20) ≤ vcN (gi t 0 20) → jsR R H s t → jfC σ s → jfM τ t → simJ R H σ τ (fX4_joinOne_l21 N (fX4_joinOne N Dc) R f (zI i) (zI p) (zI k) s) (fX12_gives_l2 N (fX12_gives N Dr) g (zI i) (zI k) t) := by
      intro d
      induction d with
      | zero =>
        intro k f g s t hk hf hg hvc js fc fm
        obtain ⟨f, rfl⟩ : ∃ x, f = x + 1 := ⟨f - 1, by omega⟩
        obtain ⟨g, rfl⟩ : ∃ x, g = x + 1 := ⟨g - 1, by omega⟩
        have : k = 24 := by omega
        subst this
        refine ⟨0, s, t, ?_, ?_, Or.inl rfl, js, fc, fm, hvc⟩
        · show fX4_joinOne_s21 N _ R _ (zI i) (zI p) (zI (24 : Nat)) s = _
          unfold fX4_joinOne_s21
          rw [if_pos (by decide)]
        · show fX12_gives_s2 N _ _ (zI i) (zI (24 : Nat)) t = _
          unfold fX12_gives_s2
          have c1 : (zI H ≤ zI (24 : Nat)) = True := by rw [zI_le (by omega) (by omega) (by omega) (by omega)]; exact eq_true (by omega)
          rw [if_pos (by decide), show (300 : Int32).toNatClampNeg = 300 from rfl, js.2.2.2.2]
          simp only [c1, if_true]
      | succ d ihd =>
        intro k f g s t hk hf hg hvc js fc fm
        obtain ⟨f, rfl⟩ : ∃ x, f = x + 1 := ⟨f - 1, by omega⟩
        obtain ⟨g, rfl⟩ : ∃ x, g = x + 1 := ⟨g - 1, by omega⟩
        obtain ⟨j1, j2, j3, j4, j5⟩ := js
        have js : jsR R H s t := ⟨j1, j2, j3, j4, j5⟩
        have kk : (ck (zI k) 24 = true) = True := zI_ckT (by omega) (by omega) (by omega)
        have zk : (zI k).toNatClampNeg = k := by rw [zI_clamp (by omega) (by omega)]; omega
        have nx : zI k + 1 = zI ((k + 1 : Nat) : Int) := by rw [show (1 : Int32) = zI 1 from rfl, zI_add]; rfl
        have c24 : (24 ≤ zI k) = False := by rw [show (24 : Int32) = zI 24 from rfl, zI_le (by omega) (by omega) (by omega) (by omega)]; exact eq_false (by omega)
        have tC : (((gi s R i) &&& ((gi s 73 4) ^^^ (-1))) &&& ((1 : Int32) <<< (zI k &&& 31)) = 0) = ((bt (gi t 10 i) k && !bt (gi t 0 20) k) = false) := by
          rw [t_and1 (by omega), bt_nand (by omega), j1 i hi, j4]
        have eC : fX4_joinOne_l21 N (fX4_joinOne N Dc) R (f + 1) (zI i) (zI p) (zI k) s = if (bt (gi t 10 i) k && !bt (gi t 0 20) k) = false then fX4_joinOne_l21 N (fX4_joinOne N Dc) R f (zI i) (zI p) (zI ((k + 1 : Nat) : Int)) s else (if gi (si s 73 4 ((gi s 73 4) ||| ((1 : Int32) <<< (zI k &&& 31)))) 76 k = -1 then fX4_joinOne_b88 N (fX4_joinOne N Dc) R (zI i) (zI k) (si s 73 4 ((gi s 73 4) ||| ((1 : Int32) <<< (zI k &&& 31)))) else ((fX4_joinOne N Dc R (gi (si s 73 4 ((gi s 73 4) ||| ((1 : Int32) <<< (zI k &&& 31)))) 76 k) (zI p + 1) (si s 73 4 ((gi s 73 4) ||| ((1 : Int32) <<< (zI k &&& 31))))).bind fun y2 => (if y2.1 = 0 then fX4_joinOne_l21 N (fX4_joinOne N Dc) R f (zI i) (zI p) (zI ((k + 1 : Nat) : Int)) y2.2 else (fX4_joinOne_b88 N (fX4_joinOne N Dc) R (zI i) (zI k) y2.2)))) := by
          show fX4_joinOne_s21 N _ R _ (zI i) (zI p) (zI k) s = _
          unfold fX4_joinOne_s21 fX4_joinOne_b98
          simp only [c24, if_false, ki, zi, if_true, tC, nmM, kk, zk, nx]
        have eM : fX12_gives_l2 N (fX12_gives N Dr) (g + 1) (zI i) (zI k) t = if H ≤ k then some (0, t) else if (bt (gi t 10 i) k && !bt (gi t 0 20) k) = false then fX12_gives_l2 N (fX12_gives N Dr) g (zI i) (zI ((k + 1 : Nat) : Int)) t else (if gi (si t 0 20 ((gi t 0 20) ||| ((1 : Int32) <<< (zI k &&& 31)))) 12 k = -1 then fX12_gives_b80 N (fX12_gives N Dr) (zI i) (zI k) (si t 0 20 ((gi t 0 20) ||| ((1 : Int32) <<< (zI k &&& 31)))) else ((fX12_gives N Dr (gi (si t 0 20 ((gi t 0 20) ||| ((1 : Int32) <<< (zI k &&& 31)))) 12 k) (si t 0 20 ((gi t 0 20) ||| ((1 : Int32) <<< (zI k &&& 31))))).bind fun y2 => (if y2.1 = 0 then fX12_gives_l2 N (fX12_gives N Dr) g (zI i) (zI ((k + 1 : Nat) : Int)) y2.2 else (fX12_gives_b80 N (fX12_gives N Dr) (zI i) (zI k) y2.2)))) := by
          show fX12_gives_s2 N _ _ (zI i) (zI k) t = _
          unfold fX12_gives_s2 fX12_gives_b96
          have c1 : (zI H ≤ zI k) = (H ≤ k) := by rw [zI_le (by omega) (by omega) (by omega) (by omega)]; exact propext (by omega)
          rw [if_pos (by decide), show (300 : Int32).toNatClampNeg = 300 from rfl, j5]
          simp only [c1, ki, zi, if_true, t_sh1 (show k < 32 by omega), bI_0, bI_1, nmM, kk, zk, nx]
          by_cases q0 : H ≤ k
          · rw [if_pos q0, if_pos q0]
          · rw [if_neg q0, if_neg q0]
            cases bt (gi t 10 i) k <;> cases bt (gi t 0 20) k <;> rfl
        rw [eC, eM]
        by_cases q0 : H ≤ k
        · rw [if_pos q0, if_pos (by rw [j2 i k hi q0 (by omega)]; rfl)]
          have := ihd (k + 1) f (d + 1) s t (by omega) (by omega) (by omega) hvc js fc fm
          obtain ⟨x, s', t', x1, x2, x3, x4, x5, x6, x7⟩ := this
          have em2 : fX12_gives_l2 N (fX12_gives N Dr) (d + 1) (zI i) (zI ((k + 1 : Nat) : Int)) t = some (0, t) := by
            show fX12_gives_s2 N _ _ (zI i) (zI ((k + 1 : Nat) : Int)) t = _
            unfold fX12_gives_s2
            have c1 : (zI H ≤ zI ((k + 1 : Nat) : Int)) = True := by rw [zI_le (by omega) (by omega) (by omega) (by omega)]; exact eq_true (by omega)
            rw [if_pos (by decide), show (300 : Int32).toNatClampNeg = 300 from rfl, j5]
            simp only [c1, if_true]
          rw [em2] at x2
          exact ⟨x, s', t', x1, x2, x3, x4, x5, x6, x7⟩
        · rw [if_neg q0]
          by_cases q1 : (bt (gi t 10 i) k && !bt (gi t 0 20) k) = false
          · rw [if_pos q1, if_pos q1]
            exact ihd (k + 1) f g s t (by omega) (by omega) (by omega) hvc js fc fm
          · rw [if_neg q1, if_neg q1]
            have qv : bt (gi t 0 20) k = false := by
              cases h1 : bt (gi t 0 20) k with
              | false => rfl
              | true => exfalso; apply q1; rw [h1]; simp
            generalize hs1 : si s 73 4 ((gi s 73 4) ||| ((1 : Int32) <<< (zI k &&& 31))) = s1
            generalize ht1 : si t 0 20 ((gi t 0 20) ||| ((1 : Int32) <<< (zI k &&& 31))) = t1
            have gs : ∀ a b, ¬ (a = 73 ∧ b = 4) → gi s1 a b = gi s a b := fun a b hab => by rw [← hs1, gi_si, if_neg hab]
            have gt : ∀ a b, ¬ (a = 0 ∧ b = 20) → gi t1 a b = gi t a b := fun a b hab => by rw [← ht1, gi_si, if_neg hab]
            have gs4 : gi s1 73 4 = (gi s 73 4) ||| ((1 : Int32) <<< (zI k &&& 31)) := by rw [← hs1, gi_si, if_pos ⟨rfl, rfl⟩]
            have gt20 : gi t1 0 20 = (gi t 0 20) ||| ((1 : Int32) <<< (zI k &&& 31)) := by rw [← ht1, gi_si, if_pos ⟨rfl, rfl⟩]
            have v1 : vcN (gi t1 0 20) = vcN (gi t 0 20) + 1 := by rw [gt20]; exact vc_add (by omega) qv
            have js1 : jsR R H s1 t1 := ⟨fun a ha => by rw [gs _ _ (by omega), gt _ _ (by omega)]; exact j1 a ha, fun a b ha hb hb2 => by rw [gt _ _ (by omega)]; exact j2 a b ha hb hb2, fun b hb => by rw [gs _ _ (by omega), gt _ _ (by omega)]; exact j3 b hb, by rw [gs4, gt20, j4], by rw [gt _ _ (by omega)]; exact j5⟩
            have fc1 : jfC σ s1 := fun a b hab => (gs a b (by omega)).trans (fc a b hab)
            have fm1 : jfM τ t1 := fun a b hab => (gt a b (by omega)).trans (fm a b hab)
            -- k is taken
            have take : ∀ u w : qMem, jsR R H u w → jfC σ u → jfM τ w → vcN (gi τ 0 20) ≤ vcN (gi w 0 20) → simJ R H σ τ (fX4_joinOne_b88 N (fX4_joinOne N Dc) R (zI i) (zI k) u) (fX12_gives_b80 N (fX12_gives N Dr) (zI i) (zI k) w) := by
              intro u w jw fu fw hvw
              obtain ⟨w1, w2, w3, w4, w5⟩ := jw
              refine ⟨1, si u 76 k (zI i), si (si w 12 k (zI i)) 11 i (zI k), ?_, ?_, Or.inr rfl, ⟨fun a ha => ?_, fun a b ha hb hb2 => ?_, fun b hb => ?_, ?_, ?_⟩, fun a b hab => ?_, fun a b hab => ?_, ?_⟩
              · unfold fX4_joinOne_b88; simp only [kk, zk, if_true, nmM]
              · unfold fX12_gives_b80; simp only [kk, zk, ki, zi, if_true, nmM]
              · rw [gi_si, if_neg (by omega), gi_si, if_neg (by omega), gi_si, if_neg (by omega)]; exact w1 a ha
              · rw [gi_si, if_neg (by omega), gi_si, if_neg (by omega)]; exact w2 a b ha hb hb2
              · rw [gi_si, gi_si, if_neg (show ¬ (12 = 11 ∧ b = i) by omega), gi_si]
                by_cases e : b = k
                · rw [if_pos ⟨rfl, e⟩, if_pos ⟨rfl, e⟩]; exact ⟨rfl, Or.inr ⟨i, hi, rfl⟩⟩
                · rw [if_neg (by omega), if_neg (by omega)]; exact w3 b hb
              · rw [gi_si, if_neg (by omega), gi_si, if_neg (by omega), gi_si, if_neg (by omega)]; exact w4
              · rw [gi_si, if_neg (by omega), gi_si, if_neg (by omega)]; exact w5
              · rw [gi_si, if_neg (by omega)]; exact fu a b hab
              · rw [gi_si, if_neg (by omega), gi_si, if_neg (by omega)]; exact fw a b hab
              · rw [gi_si, if_neg (by omega), gi_si, if_neg (by omega)]; exact hvw
            have hk24 : k < 24 := by omega
            rw [(js1.2.2.1 k hk24).1]
            by_cases q2 : gi t1 12 k = -1
            · rw [if_pos q2, if_pos q2]
              exact take s1 t1 js1 fc1 fm1 (by omega)
            · rw [if_neg q2, if_neg q2]
              obtain ⟨a, ha, ea⟩ : ∃ a : Nat, a < 24 ∧ gi t1 12 k = zI a := by
                rcases (js1.2.2.1 k hk24).2 with z | z
                · exact absurd z q2
                · exact z
              have vle := vc_le (gi t1 0 20)
              have mpos : 0 < m := by omega
              rw [ea, show zI p + 1 = zI ((p + 1 : Nat) : Int) by rw [show (1 : Int32) = zI 1 from rfl, zI_add]; rfl]
              obtain ⟨x, s2, t2, x1, x2, x3, x4, x5, x6, x7⟩ := ih (m - 1) (by omega) (p + 1) Dc Dr a s1 t1 (by omega) (by omega) (by omega) (by omega) ha js1
              rw [x1, x2, Option.bind_some, Option.bind_some]
              rcases x3 with z | z
              · subst z
                rw [if_pos rfl, if_pos rfl]
                exact ihd (k + 1) f g s2 t2 (by omega) (by omega) (by omega) (by omega) x4 (jfC_t fc1 x5) (jfM_t fm1 x6)
              · subst z
                rw [if_neg (show ¬ ((1 : Int32), s2).1 = 0 from n10), if_neg (show ¬ ((1 : Int32), t2).1 = 0 from n10)]
                exact take s2 t2 x4 (jfC_t fc1 x5) (jfM_t fm1 x6) (by omega)
    exact loop 24 0 N N σ τ (by omega) (by omega) (by omega) (Nat.le_refl _) hj (fun _ _ _ => rfl) (fun _ _ _ => rfl)
