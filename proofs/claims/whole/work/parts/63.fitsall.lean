/-! all runs: the reference's lists; runs -/
theorem r_fits {N : Nat} {τ : qMem} {κ : Nat → Int32} (hN : 200000 ≤ N) (hκ : τ.1 2 = κ) (hw : KW κ) (hr : RC τ.1 κ) (hv : 0 ≤ (gi τ 0 2).toInt) : Ho (fX12_fits N τ) (fun t => SM τ t ∧ RC t.1 κ ∧ fitsOK t.1 κ) := by
  have hr0 := hr
  obtain ⟨ra, rb, rc, rd, re, rf⟩ := hr
  unfold fX12_fits
  by_cases q : gi τ 0 13 = gi τ 0 2
  · rw [if_pos q]
    exact Ho_some ⟨SM_refl _, hr0, re q⟩
  · rw [if_neg q]
    have g1 : ∀ k j, gi (si τ 0 13 (gi τ 0 2)) k j = if k = 0 ∧ j = 13 then gi τ 0 2 else gi τ k j := fun k j => gi_si
    show Ho ((fX12_laysNews N (si τ 0 13 (gi τ 0 2))).bind _) _
    generalize hs1 : si τ 0 13 (gi τ 0 2) = s1 at g1
    have eκ1 : s1.1 2 = κ := by rw [← hκ]; exact funext fun j => (g1 2 j).trans (if_neg (by omega))
    refine Ho_bind (r_laysNews hN eκ1 hw) fun s2 ⟨n1, n2⟩ => ?_
    have g3 : ∀ k j, gi (si s2 0 12 0) k j = if k = 0 ∧ j = 12 then 0 else gi s2 k j := fun k j => gi_si
    show Ho (fX12_fits_l31 N N 0 (si s2 0 12 0)) _
    generalize hs3 : si s2 0 12 0 = s3 at g3
    have o3 : ∀ k j, k ≠ 6 → ¬ (k = 0 ∧ (j = 10 ∨ j = 12 ∨ j = 13)) → gi s3 k j = gi τ k j := by
      intro k j k1 k2
      rw [g3, if_neg (by omega), n2 k j k1 (by omega), g1, if_neg (by omega)]
    have e13 : gi s3 0 13 = gi τ 0 2 := by rw [g3, if_neg (by omega), n2 0 13 (by omega) (by omega), g1, if_pos ⟨rfl, rfl⟩]
    have eκ3 : s3.1 2 = κ := by rw [← hκ]; exact funext fun j => o3 2 j (by omega) (by omega)
    have hn3 : newsOK s3.1 κ := newsOK_c (t := s2.1) (t' := s3.1) (fun k j hh => (g3 k j).trans (if_neg (by omega))) n1
    have hca : gi s3 0 7 = gi s3 0 2 → carrOK s3.1 κ := by
      intro z
      rw [o3 0 7 (by omega) (by omega), o3 0 2 (by omega) (by omega)] at z
      exact carrOK_c (t := τ.1) (t' := s3.1) (fun j => o3 5 j (by omega) (by omega)) (rd z)
    rw [show fX12_fits_l31 N N 0 s3 = fX12_fits_l31 N N (zI 0) s3 from rfl]
    refine lp_for (S := qMem) (R := qMem) (fun n i s => fX12_fits_l31 N n (zI i) s) (fun i s => 0 ≤ i ∧ (∀ r : Nat, (r : Int) < i → gi s 7 r = bI (fitR κ r)) ∧ gi s 0 12 = zI (fb_ct (fitR κ) i.toNat) ∧ (∀ k j, k ≠ 5 → k ≠ 7 → ¬ (k = 0 ∧ (j = 7 ∨ j = 12)) → gi s k j = gi s3 k j) ∧ (gi s 0 7 = gi s 0 2 → carrOK s.1 κ) ∧ (gi s 0 7 = gi s3 0 7 ∨ gi s 0 7 = gi s3 0 2)) _ 50176 ?_ ?_ N 0 s3 (by omega) (by omega) ?_
    · intro n s ⟨_, h1, h2, h3, h4, h5⟩
      show Ho (fX12_fits_s31 N _ _ _) _
      unfold fX12_fits_s31
      rw [if_pos (by decide)]
      have hfo : fitsOK s.1 κ := ⟨fun r hr => h1 r (by omega), h2⟩
      have o : ∀ k j, k ≠ 5 → k ≠ 6 → k ≠ 7 → ¬ (k = 0 ∧ (j = 7 ∨ j = 10 ∨ j = 12 ∨ j = 13)) → gi s k j = gi τ k j := by
        intro k j k1 k2 k3 k4
        rw [h3 k j k1 k3 (by omega), o3 k j k2 (by omega)]
      have e2 : gi s 0 2 = gi τ 0 2 := o 0 2 (by omega) (by omega) (by omega) (by omega)
      have e15 : gi s 0 15 = gi τ 0 15 := o 0 15 (by omega) (by omega) (by omega) (by omega)
      have e13' : gi s 0 13 = gi τ 0 2 := by rw [h3 0 13 (by omega) (by omega) (by omega)]; exact e13
      refine Ho_some ⟨fun k j hk => o k j (by unfold scrM at hk; omega) (by unfold scrM at hk; omega) (by unfold scrM at hk; omega) (by unfold scrM at hk; omega), ?_, hfo⟩
      refine ⟨?_, ?_, ?_, h4, fun _ => hfo, fun z => ?_⟩
      · show -1 ≤ (gi s 0 7).toInt ∧ (gi s 0 7).toInt ≤ (gi s 0 2).toInt
        rw [e2]
        rcases h5 with z | z
        · rw [z, o3 0 7 (by omega) (by omega)]; exact ra
        · rw [z, o3 0 2 (by omega) (by omega)]; omega
      · show -1 ≤ (gi s 0 13).toInt ∧ (gi s 0 13).toInt ≤ (gi s 0 2).toInt
        rw [e2, e13']; omega
      · show -1 ≤ (gi s 0 15).toInt ∧ (gi s 0 15).toInt ≤ (gi s 0 2).toInt
        rw [e2, e15]; exact rc
      · have z2 : gi s 0 15 = gi s 0 2 := z
        rw [e2, e15] at z2
        refine ⟨missOK_c (t := τ.1) (t' := s.1) (fun j => o 8 j (by omega) (by omega) (by omega) (by omega)) (rf z2).1, newsOK_c (t := s3.1) (t' := s.1) (fun k j hh => h3 k j (by omega) (by omega) (by omega)) hn3⟩
    · intro n i s hi ⟨i0, h1, h2, h3, h4, h5⟩ hc
      show Ho (fX12_fits_s31 N _ _ _) _
      unfold fX12_fits_s31 fX12_fits_b82
      have c : (50176 ≤ zI i) = False := by rw [zl_50176, zI_le (by omega) (by omega) (by omega) (by omega)]; exact eq_false (by omega)
      obtain ⟨x1, x2, x3, x4⟩ := r_code i0 hi
      have cc : (ck (zI i) 50176 = true) = True := zI_ckT (by omega) (by omega) (by omega)
      have z : (zI i).toNatClampNeg = i.toNat := zI_clamp (by omega) (by omega)
      have i1 : zI i + 1 = zI (i + 1) := zI_add i 1
      simp only [c, if_false, x1, x2, x3, x4, Option.bind_some, cc, if_true, z, i1]
      have hn : newsOK s.1 κ := newsOK_c (t := s3.1) (t' := s.1) (fun k j hh => h3 k j (by omega) (by omega) (by omega)) hn3
      have eκ : s.1 2 = κ := by rw [← eκ3]; exact funext fun j => h3 2 j (by omega) (by omega) (by omega)
      refine Ho_bind (r_isRun (τ0 := s) (τ := s) hN eκ hw hn (RS_refl h4) (by omega) (by omega) (by omega) (by omega) (by omega) (by omega) (by omega) (by omega)) fun a ⟨w1, w2⟩ => ?_
      rw [w2, bI_nar, ← fitR_int κ i0]
      simp only [nmM]
      rw [show gi (si a.2 7 i.toNat (bI (fitR κ i.toNat))) 7 i.toNat = bI (fitR κ i.toNat) by rw [gi_si, if_pos ⟨rfl, rfl⟩], show gi (si a.2 7 i.toNat (bI (fitR κ i.toNat))) 0 12 = zI (fb_ct (fitR κ) i.toNat) by rw [gi_si, if_neg (by omega), w1.1 0 12 (by omega) (by omega), h2], if_bI]
      have fin : ∀ d : Int, d = (if fitR κ i.toNat then 1 else 0) → Ho (fX12_fits_l31 N n (zI (i + 1)) (si (si a.2 7 i.toNat (bI (fitR κ i.toNat))) 0 12 (zI (fb_ct (fitR κ) i.toNat) + zI d))) (fun t => SM τ t ∧ RC t.1 κ ∧ fitsOK t.1 κ) := by
        intro d hd
        rw [zI_add]
        refine hc _ ⟨by omega, fun r hr => ?_, ?_, fun k j k1 k2 k3 => ?_, fun zz => ?_, ?_⟩
        · rw [gi_si, if_neg (by omega), gi_si]
          by_cases qr : r = i.toNat
          · rw [if_pos ⟨rfl, qr⟩, qr]
          · rw [if_neg (by omega), w1.1 7 r (by omega) (by omega)]
            exact h1 r (by omega)
        · rw [gi_si, if_pos ⟨rfl, rfl⟩, show (i + 1).toNat = i.toNat + 1 by omega, fb_ct_succ, hd]
          congr 1
          cases fitR κ i.toNat <;> simp
        · rw [gi_si, if_neg (by omega), gi_si, if_neg (by omega), w1.1 k j k1 (by omega)]
          exact h3 k j k1 k2 k3
        · rw [gi_si, if_neg (by omega), gi_si, if_neg (by omega), gi_si, if_neg (by omega), gi_si, if_neg (by omega)] at zz
          refine carrOK_c (t := a.2.1) (fun j => ?_) (w1.2.1 zz)
          show gi (si (si a.2 7 i.toNat _) 0 12 _) 5 j = gi a.2 5 j
          rw [gi_si, if_neg (by omega), gi_si, if_neg (by omega)]
        · rw [gi_si, if_neg (by omega), gi_si, if_neg (by omega)]
          rcases w1.2.2 with y | y
          · rw [y]; exact h5
          · rw [y, h3 0 2 (by omega) (by omega) (by omega)]; exact Or.inr rfl
      by_cases qf : fitR κ i.toNat = true
      · rw [if_pos qf]
        exact fin 1 (by rw [qf]; rfl)
      · rw [if_neg qf]
        rw [Bool.not_eq_true] at qf
        exact fin 0 (by rw [qf]; rfl)
    · refine ⟨by omega, fun r hr => by omega, ?_, fun _ _ _ _ _ => rfl, hca, Or.inl rfl⟩
      rw [g3, if_pos ⟨rfl, rfl⟩]
      rfl
theorem Inv_v {LW : LWt} {c : Nat} {σ τ : qMem} (h : Inv LW c σ τ) : 0 ≤ (gi τ 0 2).toInt := h.1.1
theorem b_runs {LW : LWt} {c N : Nat} {σ τ : qMem} (hN : 200000 ≤ N) (hLW : LWc LW) (h : Inv LW c σ τ) : Both LW c (fX11_runs N σ) (fX12_runs N τ) := by
  unfold fX11_runs fX12_runs
  refine both_q (v := zI (fb_ct (fitR (τ.1 2)) 50176)) hLW h ?_ ?_
  · refine Ho_bind (e_plot hN (Inv_CI h)) fun s ⟨w1, w2, w3, _⟩ => ?_
    exact Ho_some ⟨w3.2, w2, w1.2.2.2⟩
  · refine Ho_bind (r_fits hN rfl (Inv_KW h) (Inv_RC h) (Inv_v h)) fun t ⟨w1, w2, w3⟩ => ?_
    exact Ho_some ⟨w3.2, w1, w2⟩
/-! places of runs at a bell -/
def rX (r : Nat) (bell : Int) : Int := ((r / 1568 : Nat) : Int) + bell * (((r / 7 % 7 : Nat) : Int) - 3)
def rY (r : Nat) (bell : Int) : Int := ((r / 49 % 32 : Nat) : Int) + bell * (((r % 7 : Nat) : Int) - 3)
theorem e_eastOf {lane bell : Int} (h0 : 0 ≤ lane) (h1 : lane < 1568) : fX3_eastOf (zI lane) (zI bell) = some (zI (lane / 49 + (lane / 7 % 7 - 3) * bell)) := by
  unfold fX3_eastOf
  have d2 : zI lane / 49 = zI (lane / 49) := zI_divp (b := 49) (by omega) (by omega) (by omega) (by omega)
  have d3 : zI lane / 7 = zI (lane / 7) := zI_divp (b := 7) (by omega) (by omega) (by omega) (by omega)
  have d4 : irm (zI (lane / 7)) 7 = zI (lane / 7 % 7) := zI_rem (b := 7) (by omega) (by omega) (by omega) (by omega)
  rw [d2, d3, d4, show (3 : Int32) = zI 3 from rfl, zI_sub, zI_mul, zI_add]
theorem e_lowOf {lane bell : Int} (h0 : 0 ≤ lane) (h1 : lane < 1568) : fX3_lowOf (zI lane) (zI bell) = some (zI ((lane % 7 - 3) * bell)) := by
  unfold fX3_lowOf
  have d4 : irm (zI lane) 7 = zI (lane % 7) := zI_rem (b := 7) (by omega) (by omega) (by omega) (by omega)
  rw [d4, show (3 : Int32) = zI 3 from rfl, zI_sub, zI_mul]
theorem rX_lane {lane y : Nat} {bell : Int} (h1 : lane < 1568) (h2 : y < 32) : rX (laneR lane y) bell = (lane : Int) / 49 + ((lane : Int) / 7 % 7 - 3) * bell ∧ rY (laneR lane y) bell = ((lane : Int) % 7 - 3) * bell + y := by
  obtain ⟨e1, e2, e3, e4, _⟩ := lane_dec h1 h2
  unfold rX rY
  rw [e1, e2, e3, e4]
  constructor
  · rw [Int.mul_comm bell]
    congr 1
  · rw [Int.mul_comm bell, Int.add_comm]
    congr 1
theorem rXY_rng {r : Nat} {bell : Int} (h : r < 50176) (l0 : 0 ≤ bell) (l1 : bell ≤ 23) : (-69 ≤ rX r bell ∧ rX r bell ≤ 100) ∧ (-69 ≤ rY r bell ∧ rY r bell ≤ 100) := by
  have a := mulb (u := ((r / 7 % 7 : Nat) : Int) - 3) (bell := bell) (by omega) (by omega) l0 l1
  have b := mulb (u := ((r % 7 : Nat) : Int) - 3) (bell := bell) (by omega) (by omega) l0 l1
  unfold rX rY
  rw [Int.mul_comm bell, Int.mul_comm bell]
  omega
theorem r_placeX {r bell : Int} (h0 : 0 ≤ r) (h1 : r < 50176) : zI (r / 1568) + zI bell * zI (r / 7 % 7 - 3) = zI (rX r.toNat bell) ∧ zI (r / 49 % 32) + zI bell * zI (r % 7 - 3) = zI (rY r.toNat bell) := by
  rw [zI_mul, zI_add, zI_mul, zI_add]
  unfold rX rY
  constructor
  · congr 2
    · omega
    · congr 1; omega
  · congr 2
    · omega
    · congr 1; omega
