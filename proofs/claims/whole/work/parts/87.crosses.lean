/-! cross -/
theorem r_crosses {N : Nat} {τ0 : qMem} {κ : Nat → Int32} {bell : Int} {n0 n1 : Nat} {i0 i1 : Bool × Nat} (hN : 200000 ≤ N) (hκ : τ0.1 2 = κ) (hw : KW κ) (hn : newsOK τ0.1 κ) (h : RS τ0 κ τ0) (h0 : (newsL κ)[n0]? = some i0) (h1 : (newsL κ)[n1]? = some i1) (l0 : 0 ≤ bell) (l1 : bell ≤ 23) :
    Ho (fX12_crosses N (zI bell) (zI n0) (zI n1) τ0) (fun a => a.1 = zI (fb_sm (fun x => fb_ct (fun y => crsB κ i0 i1 bell x y) 32) 32) ∧ RS τ0 κ a.2) := by
  unfold fX12_crosses
  have hst := lp_for (S := qMem) (R := Int32 × qMem) (fun m x s => fX12_crosses_l6 N m (zI bell) (zI n0) (zI n1) (zI ((fb_sm (fun x => fb_ct (fun y => crsB κ i0 i1 bell x y) 32) x.toNat : Nat) : Int)) (zI x) s) (fun x s => 0 ≤ x ∧ RS τ0 κ s) (fun a => a.1 = zI (fb_sm (fun x => fb_ct (fun y => crsB κ i0 i1 bell x y) 32) 32) ∧ RS τ0 κ a.2) 32 ?_ ?_ N 0 τ0 (by omega) (by omega) ⟨by omega, h⟩
  · exact hst
  · intro m s ⟨_, g⟩
    show Ho (fX12_crosses_s6 N _ _ _ _ _ _ _) _
    unfold fX12_crosses_s6
    rw [if_pos (by decide)]
    exact Ho_some ⟨rfl, g⟩
  · intro m x s hx ⟨x0, g⟩ hc
    show Ho (fX12_crosses_s6 N _ _ _ _ _ _ _) _
    unfold fX12_crosses_s6
    have c : (32 ≤ zI x) = False := by rw [zl_32, zI_le (by omega) (by omega) (by omega) (by omega)]; exact eq_false (by omega)
    simp only [c, if_false]
    have ex : ((x.toNat : Nat) : Int) = x := by omega
    have hst := lp_for (S := qMem) (R := Int32 × qMem) (fun k y s => fX12_crosses_l16 N (fX12_crosses_l6 N m) k (zI bell) (zI n0) (zI n1) (zI ((fb_sm (fun x => fb_ct (fun y => crsB κ i0 i1 bell x y) 32) x.toNat : Nat) + (fb_ct (fun y => crsB κ i0 i1 bell x.toNat y) y.toNat : Nat) : Int)) (zI x) (zI y) s) (fun y s => 0 ≤ y ∧ RS τ0 κ s) (fun a => a.1 = zI (fb_sm (fun x => fb_ct (fun y => crsB κ i0 i1 bell x y) 32) 32) ∧ RS τ0 κ a.2) 32 ?_ ?_ N 0 s (by omega) (by omega) ⟨by omega, g⟩
    · have e : ((fb_sm (fun x => fb_ct (fun y => crsB κ i0 i1 bell x y) 32) x.toNat : Nat) + (fb_ct (fun y => crsB κ i0 i1 bell x.toNat y) (0 : Int).toNat : Nat) : Int) = (fb_sm (fun x => fb_ct (fun y => crsB κ i0 i1 bell x y) 32) x.toNat : Nat) := Int.add_zero _
      simp only [e] at hst
      exact hst
    · intro k t ⟨_, gt⟩
      show Ho (fX12_crosses_s16 N _ _ _ _ _ _ _ _ _) _
      unfold fX12_crosses_s16
      rw [if_pos (by decide), show zI x + 1 = zI (x + 1) from zI_add x 1]
      have := hc t ⟨by omega, gt⟩
      rw [show (x + 1).toNat = x.toNat + 1 by omega, fb_sm_succ] at this
      exact this
    · intro k y t hy ⟨y0, gt⟩ hc2
      show Ho (fX12_crosses_s16 N _ _ _ _ _ _ _ _ _) _
      unfold fX12_crosses_s16 fX12_crosses_b55 fX12_crosses_b56
      have c2 : (32 ≤ zI y) = False := by rw [zl_32, zI_le (by omega) (by omega) (by omega) (by omega)]; exact eq_false (by omega)
      have y1 : zI y + 1 = zI (y + 1) := zI_add y 1
      have ey : ((y.toNat : Nat) : Int) = y := by omega
      simp only [c2, if_false, y1]
      have nx : ∀ t2, RS τ0 κ t2 → ∀ w : Bool, crsB κ i0 i1 bell x.toNat y.toNat = w → Ho (fX12_crosses_l16 N (fX12_crosses_l6 N m) k (zI bell) (zI n0) (zI n1) (zI ((fb_sm (fun x => fb_ct (fun y => crsB κ i0 i1 bell x y) 32) x.toNat : Nat) + (fb_ct (fun y => crsB κ i0 i1 bell x.toNat y) y.toNat : Nat) : Int) + bI w) (zI x) (zI (y + 1)) t2) (fun a => a.1 = zI (fb_sm (fun x => fb_ct (fun y => crsB κ i0 i1 bell x y) 32) 32) ∧ RS τ0 κ a.2) := by
        intro t2 r2 w hw
        have := hc2 t2 ⟨by omega, r2⟩
        rw [show (y + 1).toNat = y.toNat + 1 by omega, fb_ct_succ, hw] at this
        cases w
        · rw [bI_f, show (0 : Int32) = zI 0 from rfl, zI_add, Int.add_zero]
          exact this
        · rw [bI_t, show (1 : Int32) = zI 1 from rfl, zI_add, Int.add_assoc]
          exact this
      have cr : crsB κ i0 i1 bell x.toNat y.toNat = (fitB κ i0 bell x y && fitB κ i1 bell x y) := by unfold crsB; rw [ex, ey]
      refine Ho_bind (r_isFit hN hκ hw hn gt h0 l0 l1 (by omega) (by omega) (by omega) (by omega)) fun a ⟨a1, a2⟩ => ?_
      rw [a1, if_bI]
      cases e : fitB κ i0 bell x y
      · rw [if_neg (by decide)]
        exact nx a.2 a2 false (by rw [cr, e]; rfl)
      · rw [if_pos rfl]
        refine Ho_bind (r_isFit hN hκ hw hn a2 h1 l0 l1 (by omega) (by omega) (by omega) (by omega)) fun a' ⟨b1, b2⟩ => ?_
        rw [b1, if_bI]
        cases e2 : fitB κ i1 bell x y
        · rw [if_neg (by decide)]
          exact nx a'.2 b2 false (by rw [cr, e, e2]; rfl)
        · rw [if_pos rfl]
          exact nx a'.2 b2 true (by rw [cr, e, e2]; rfl)
theorem b_cross {LW : LWt} {c N : Nat} {σ τ : qMem} (hN : 200000 ≤ N) (hLW : LWc LW) (h : Inv LW c σ τ) (p1 p2 p3 : Int32) : Both LW c (fX11_cross N p1 p2 p3 σ) (fX12_cross N p1 p2 p3 τ) := by
  obtain ⟨b, l1, u1, rfl⟩ := zI_ex p1
  obtain ⟨S, l2, u2, rfl⟩ := zI_ex p2
  obtain ⟨T, l3, u3, rfl⟩ := zI_ex p3
  have kw := Inv_KW h
  unfold fX11_cross fX12_cross fX11_cross_b52 fX12_cross_b43
  simp only [e_isBell l1 u1, r_isBell l1 u1, Option.bind_some, if_bI, decide_eq_true_eq]
  by_cases q : 0 ≤ b ∧ b ≤ 23
  · rw [if_pos q, if_pos q]
    obtain ⟨σ1, es, a1, a2, a3, a4, a5⟩ := e_sortOut hN (Inv_CI h)
    obtain ⟨t, et, n1, n2⟩ := r_laysNews hN (τ := τ) rfl kw
    have sm := SM_news n2
    have rc := RC_news (Inv_RC h) n1 (fun k j => n2 k j)
    have hrs : RS t (τ.1 2) t := RS_refl rc.2.2.2.1
    have c1 := a3
    obtain ⟨bs, bk, _, cc⟩ := c1
    obtain ⟨σ2, eu, t1, t2, t3⟩ := e_tune hN bk kw cc
    obtain ⟨se, ci2, sc2⟩ := ready_of a1 a3 a4 t1 t3
    have se1 : seen σ2.1 (τ.1 2) := se
    rw [es, et, Option.bind_some, Option.bind_some]
    have fh := fun (d : Nat) (V : Int) (hd : d < 2) (v0 : -2147483648 ≤ V) (v1 : V < 2147483648) => e_freshHeard (b := d) (T := V) (bell := b) hN kw a1.2.2 cc.1 cc.2.1 hd q.1 q.2 v0 v1
    have nf := fun (d : Nat) (V : Int) (hd : d < 2) (v0 : -2147483648 ≤ V) (v1 : V < 2147483648) => r_newOf (b := d) (T := V) (bell := b) hN n1 kw hd q.1 q.2 v0 v1
    obtain ⟨v3, e3, x3⟩ := fh 0 S (by omega) l2 u2
    obtain ⟨v4, e4, x4⟩ := fh 1 T (by omega) l3 u3
    obtain ⟨w3, f3, y3⟩ := nf 0 S (by omega) l2 u2
    obtain ⟨w4, f4, y4⟩ := nf 1 T (by omega) l3 u3
    have e3' : fX3_freshHeard N 0 (zI b) (zI S) σ1 = some v3 := e3
    have e4' : fX3_freshHeard N 1 (zI b) (zI T) σ1 = some v4 := e4
    have f3' : fX12_newOf N 0 (zI b) (zI S) t = some w3 := f3
    have f4' : fX12_newOf N 1 (zI b) (zI T) t = some w4 := f4
    rw [e3', Option.bind_some, e4', Option.bind_some, f3', Option.bind_some, f4', Option.bind_some]
    have bad : Both LW c (some (-1, σ1)) (some (-1, t)) := both_q hLW h (Ho_some ⟨rfl, a4, cc⟩) (Ho_some ⟨rfl, sm, rc⟩)
    have ln : ∀ (L : List (Bool × Nat)) (n : Nat) (it : Bool × Nat), L[n]? = some it → n < L.length := fun L n it hh => (List.getElem?_eq_some_iff.mp hh).1
    have hl2 := newsL_len kw.2.2.1 kw.2.2.2.1
    have ne : ∀ n : Nat, n ≤ 36 → (zI (n : Int) = -1) = False := fun n hn => by rw [show (-1 : Int32) = zI (-1) from rfl, zI_eq (by omega) (by omega) (by omega) (by omega)]; exact eq_false (by omega)
    rcases x3 with ⟨s0, i3, it3, rfl, g3, k3⟩ | ⟨rfl, z3⟩
    · rcases y3 with ⟨_, j3, jt3, rfl, m3, o3⟩ | ⟨rfl, z3⟩
      · rcases x4 with ⟨s4, i4, it4, rfl, g4, k4⟩ | ⟨rfl, z4⟩
        · rcases y4 with ⟨_, j4, jt4, rfl, m4, o4⟩ | ⟨rfl, z4⟩
          · have d3 : it3 = jt3 := Option.some.inj (k3.symm.trans o3)
            have d4 : it4 = jt4 := Option.some.inj (k4.symm.trans o4)
            subst d3 d4
            have b1 := ln _ _ _ g3
            have b2 := ln _ _ _ g4
            have b3 := ln _ _ _ m3
            have b4 := ln _ _ _ m4
            have f1 := freshL_len (τ.1 2) ((0 : Nat) : Int) (newsL (τ.1 2))
            have f2 := freshL_len (τ.1 2) ((1 : Nat) : Int) (newsL (τ.1 2))
            simp only [ne i3 (by omega), ne i4 (by omega), ne j3 (by omega), ne j4 (by omega), if_false]
            refine both_q (v := zI (fb_sm (fun x => fb_ct (fun y => crsB (τ.1 2) it3 it4 b x y) 32) 32)) hLW h ?_ ?_
            · unfold fX3_crossings
              rw [eu, Option.bind_some]
              refine Ho_bind (e_crossL hN se1 g3 g4 q.1 q.2) fun a ⟨c1, c2⟩ => ?_
              obtain ⟨ci3, sc3⟩ := tally_of ci2 (fun k j p1 p2 _ => c2 k j p1 p2)
              exact Ho_some ⟨c1, SC_trans sc2 sc3, ci3.2.2.2⟩
            · refine Ho_bind (r_crosses hN (SM_κ sm) kw n1 hrs m3 m4 q.1 q.2) fun a ⟨c1, c2⟩ => ?_
              obtain ⟨r1, r2⟩ := RS_RC c2 rc (Inv_v2 sm (Inv_v h))
              exact Ho_some ⟨c1, SM_trans sm r2, r1⟩
          · have := ln _ _ _ k4
            omega
        · rcases y4 with ⟨_, j4, jt4, rfl, m4, o4⟩ | ⟨rfl, _⟩
          · have := ln _ _ _ o4
            omega
          · rw [if_pos (rfl : (-1 : Int32) = -1), if_pos (rfl : (-1 : Int32) = -1), ite_self, ite_self]
            exact bad
      · have := ln _ _ _ k3
        omega
    · rcases y3 with ⟨_, j3, jt3, rfl, m3, o3⟩ | ⟨rfl, _⟩
      · have := ln _ _ _ o3
        omega
      · rw [if_pos (rfl : (-1 : Int32) = -1), if_pos (rfl : (-1 : Int32) = -1)]
        exact bad
  · rw [if_neg q, if_neg q]
    exact both_same hLW h _
