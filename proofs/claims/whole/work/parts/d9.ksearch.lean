/-! no joining is greater: the class's search -/
def oI : Option Nat → Int32
  | none => -1
  | some a => zI a
theorem oI_some {a : Nat} : oI (some a) = zI a := rfl
/-- the class's cells while it joins -/
def kst (R : Nat) (E : Nat → Nat → Bool) (s : qMem) (m : Nat → Option Nat) (V : Nat → Bool) : Prop := (∀ k, k < 24 → gi s 76 k = oI (m k)) ∧ (∀ k, k < 24 → bt (gi s 73 4) k = V k) ∧ ∀ i k, i < 24 → k < 24 → bt (gi s R i) k = E i k
theorem k_one {N R : Nat} {E : Nat → Nat → Bool} (hN : 200000 ≤ N) (hR : R = 74 ∨ R = 75) : ∀ (n p D i : Nat) (s : qMem) (m : Nat → Option Nat) (V : Nat → Bool), 24 ≤ fb_ct V 24 + n → p + n ≤ 24 → n < D → i < 24 → kst R E s m V → kOK E m → kInj m → (∀ l, l < 24 → m l = some i → V l = true) → ∃ (s' : qMem) (m' : Nat → Option Nat) (V' : Nat → Bool) (v : Int32), fX4_joinOne N D R (zI i) (zI p) s = some (v, s') ∧ kst R E s' m' V' ∧ ((v = 0 ∧ m' = m ∧ kF E i 24 m V V') ∨ (v = 1 ∧ kS E i m V m')) := by
  intro n
  induction n using Nat.strongRecOn with
  | ind n ih =>
    intro p D i s m V hv hp hD hi st ok inj sl
    obtain ⟨D, rfl⟩ : ∃ x, D = x + 1 := ⟨D - 1, by omega⟩
    have e1 : fX4_joinOne N (D + 1) R (zI i) (zI p) s = fX4_joinOne_l21 N (fX4_joinOne N D) R N (zI i) (zI p) 0 s := by
      show fX4_joinOne_e N _ R (zI i) (zI p) s = _
      unfold fX4_joinOne_e
      have c1 : (zI i < 0) = False := by rw [show (0 : Int32) = zI 0 from rfl, zI_lt (by omega) (by omega) (by omega) (by omega)]; exact eq_false (by omega)
      have c2 : (24 ≤ zI i) = False := by rw [show (24 : Int32) = zI 24 from rfl, zI_le (by omega) (by omega) (by omega) (by omega)]; exact eq_false (by omega)
      have c3 : (zI p ≤ 24) = True := by rw [show (24 : Int32) = zI 24 from rfl, zI_le (by omega) (by omega) (by omega) (by omega)]; exact eq_true (by omega)
      simp only [c1, c2, c3, if_false, if_true]
    rw [e1]
    have ki : (ck (zI i) 24 = true) = True := zI_ckT (by omega) (by omega) (by omega)
    have zi : (zI i).toNatClampNeg = i := by rw [zI_clamp (by omega) (by omega)]; omega
    have loop : ∀ (d k f : Nat) (u : qMem) (T : Nat → Bool), k + d = 24 → d < f → kst R E u m T → kF E i k m V T → ∃ (s' : qMem) (m' : Nat → Option Nat) (V' : Nat → Bool) (v : Int32), fX4_joinOne_l21 N (fX4_joinOne N D) R f (zI i) (zI p) (zI k) u = some (v, s') ∧ kst R E s' m' V' ∧ ((v = 0 ∧ m' = m ∧ kF E i 24 m V V') ∨ (v = 1 ∧ kS E i m V m')) := by
      intro d
      induction d with
      | zero =>
        intro k f u T hk hf ku kf
        obtain ⟨f, rfl⟩ : ∃ x, f = x + 1 := ⟨f - 1, by omega⟩
        have : k = 24 := by omega
        subst this
        refine ⟨u, m, T, 0, ?_, ku, Or.inl ⟨rfl, rfl, kf⟩⟩
        show fX4_joinOne_s21 N _ R _ (zI i) (zI p) (zI (24 : Nat)) u = _
        unfold fX4_joinOne_s21
        rw [if_pos (by decide)]
      | succ d ihd =>
        intro k f u T hk hf ku kf
        obtain ⟨f, rfl⟩ : ∃ x, f = x + 1 := ⟨f - 1, by omega⟩
        have hk24 : k < 24 := by omega
        have kk : (ck (zI k) 24 = true) = True := zI_ckT (by omega) (by omega) (by omega)
        have zk : (zI k).toNatClampNeg = k := by rw [zI_clamp (by omega) (by omega)]; omega
        have nx : zI k + 1 = zI ((k + 1 : Nat) : Int) := by rw [show (1 : Int32) = zI 1 from rfl, zI_add]; rfl
        have c24 : (24 ≤ zI k) = False := by rw [show (24 : Int32) = zI 24 from rfl, zI_le (by omega) (by omega) (by omega) (by omega)]; exact eq_false (by omega)
        have tC : (((gi u R i) &&& ((gi u 73 4) ^^^ (-1))) &&& ((1 : Int32) <<< (zI k &&& 31)) = 0) = ((E i k && !T k) = false) := by
          rw [t_and1 (by omega), bt_nand (by omega), ku.2.2 i k hi hk24, ku.2.1 k hk24]
        have eC : fX4_joinOne_l21 N (fX4_joinOne N D) R (f + 1) (zI i) (zI p) (zI k) u = if (E i k && !T k) = false then fX4_joinOne_l21 N (fX4_joinOne N D) R f (zI i) (zI p) (zI ((k + 1 : Nat) : Int)) u else (if gi (si u 73 4 ((gi u 73 4) ||| ((1 : Int32) <<< (zI k &&& 31)))) 76 k = -1 then fX4_joinOne_b88 N (fX4_joinOne N D) R (zI i) (zI k) (si u 73 4 ((gi u 73 4) ||| ((1 : Int32) <<< (zI k &&& 31)))) else ((fX4_joinOne N D R (gi (si u 73 4 ((gi u 73 4) ||| ((1 : Int32) <<< (zI k &&& 31)))) 76 k) (zI p + 1) (si u 73 4 ((gi u 73 4) ||| ((1 : Int32) <<< (zI k &&& 31))))).bind fun y2 => (if y2.1 = 0 then fX4_joinOne_l21 N (fX4_joinOne N D) R f (zI i) (zI p) (zI ((k + 1 : Nat) : Int)) y2.2 else (fX4_joinOne_b88 N (fX4_joinOne N D) R (zI i) (zI k) y2.2)))) := by
          show fX4_joinOne_s21 N _ R _ (zI i) (zI p) (zI k) u = _
          unfold fX4_joinOne_s21 fX4_joinOne_b98
          simp only [c24, if_false, ki, zi, if_true, tC, nmM, kk, zk, nx]
        rw [eC]
        by_cases q1 : (E i k && !T k) = false
        · rw [if_pos q1]
          exact ihd (k + 1) f u T (by omega) (by omega) ku (kF_skip kf q1)
        · rw [if_neg q1]
          have he : E i k = true := by cases z : E i k with
            | true => rfl
            | false => exact absurd (by rw [z]; rfl) q1
          have tk : T k = false := by cases z : T k with
            | false => rfl
            | true => exact absurd (by rw [z]; simp) q1
          generalize hs1 : si u 73 4 ((gi u 73 4) ||| ((1 : Int32) <<< (zI k &&& 31))) = u1
          have gu : ∀ a b, ¬ (a = 73 ∧ b = 4) → gi u1 a b = gi u a b := fun a b hab => by rw [← hs1, gi_si, if_neg hab]
          have ku1 : kst R E u1 m (upB T k true) := by
            refine ⟨fun l hl => by rw [gu _ _ (by omega)]; exact ku.1 l hl, fun l hl => ?_, fun a b ha hb => by rw [gu _ _ (by omega)]; exact ku.2.2 a b ha hb⟩
            rw [← hs1, gi_si, if_pos ⟨rfl, rfl⟩, bt_or1 (by omega) (by omega), ku.2.1 l hl]
            unfold upB
            by_cases z : l = k
            · rw [if_pos z, decide_eq_true z, Bool.or_true]
            · rw [if_neg z, decide_eq_false z, Bool.or_false]
          have ct1 : fb_ct (upB T k true) 24 = fb_ct T 24 + 1 := by
            have := fb_ct_upd T true hk24
            rw [tk, if_neg (by decide), if_pos rfl] at this
            exact this
          have take : ∀ (w : qMem) (mw : Nat → Option Nat) (Vw : Nat → Bool), kst R E w mw Vw → ∃ s', fX4_joinOne_b88 N (fX4_joinOne N D) R (zI i) (zI k) w = some (1, s') ∧ kst R E s' (upB mw k (some i)) Vw := by
            intro w mw Vw kw
            refine ⟨si w 76 k (zI i), ?_, fun l hl => ?_, fun l hl => ?_, fun a b ha hb => ?_⟩
            · unfold fX4_joinOne_b88; simp only [kk, zk, if_true, nmM]
            · rw [gi_si]
              unfold upB
              by_cases z : l = k
              · rw [if_pos ⟨rfl, z⟩, if_pos z]; rfl
              · rw [if_neg (by omega), if_neg z]; exact kw.1 l hl
            · rw [gi_si, if_neg (by omega)]; exact kw.2.1 l hl
            · rw [gi_si, if_neg (by omega)]; exact kw.2.2 a b ha hb
          rw [ku1.1 k hk24]
          cases hm : m k with
          | none =>
            rw [if_pos (show oI none = -1 from rfl)]
            obtain ⟨s', x1, x2⟩ := take u1 m _ ku1
            exact ⟨s', _, _, 1, x1, x2, Or.inr ⟨rfl, kS_base hk24 hi ok inj he hm⟩⟩
          | some a =>
            have ha : a < 24 := (ok k hk24 a hm).1
            have na : ¬ oI (some a) = -1 := fun z => by
              have z' : zI (a : Int) = zI (-1) := z
              rw [zI_eq (by omega) (by omega) (by omega) (by omega)] at z'
              omega
            rw [if_neg na, oI_some, show zI p + 1 = zI ((p + 1 : Nat) : Int) by rw [show (1 : Int32) = zI 1 from rfl, zI_add]; rfl]
            have mono : fb_ct V 24 ≤ fb_ct T 24 := fb_ct_sub (fun l hl z => kf.1 l hl z)
            have le24 : fb_ct (upB T k true) 24 ≤ 24 := fb_ct_le _ _
            obtain ⟨s2, m2, V2, v2, x1, x2, x3⟩ := ih (n - 1) (by omega) (p + 1) D a u1 m (upB T k true) (by omega) (by omega) (by omega) ha ku1 ok inj (fun l hl z => by
              rw [inj l k a hl hk24 z hm]
              unfold upB
              rw [if_pos rfl])
            rw [x1, Option.bind_some]
            rcases x3 with ⟨z1, z2, z3⟩ | ⟨z1, z2⟩
            · subst z1
              subst z2
              rw [if_pos rfl]
              exact ihd (k + 1) f s2 V2 (by omega) (by omega) x2 (kF_call kf hk24 ha hm z3)
            · subst z1
              rw [if_neg (show ¬ ((1 : Int32), s2).1 = 0 from n10)]
              obtain ⟨s', y1, y2⟩ := take s2 m2 V2 x2
              exact ⟨s', _, _, 1, y1, y2, Or.inr ⟨rfl, kS_call hk24 hi inj sl kf.1 tk he hm z2⟩⟩
    exact loop 24 0 N s V (by omega) (by omega) st kF_0
