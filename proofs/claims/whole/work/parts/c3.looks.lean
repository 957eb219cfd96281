/-! looks at cells: all ways -/
section ALL
variable {κ : Nat → Int32} {n : Nat}
def smD (r : Nat) : Nat → Nat
  | 0 => 0
  | m + 1 => smD r m + itD r m % 7
theorem itD_le (r : Nat) : ∀ m, itD r m ≤ r
  | 0 => Nat.le_refl _
  | m + 1 => Nat.le_trans (Nat.div_le_self _ _) (itD_le r m)
theorem smD_le (r : Nat) : ∀ m, smD r m ≤ 6 * m
  | 0 => Nat.le_refl _
  | m + 1 => by have := smD_le r m; have : itD r m % 7 < 7 := Nat.mod_lt _ (by omega); show smD r m + itD r m % 7 ≤ _; omega
/-- whether a way is one, so far -/
def okD (n r m : Nat) : Bool := (List.range m).all (fun x => decide (5 - x < n ∨ itD r x % 7 = 0))
theorem okD_succ (n r m : Nat) : okD n r (m + 1) = (okD n r m && decide (5 - m < n ∨ itD r m % 7 = 0)) := by
  unfold okD
  rw [List.range_succ, List.all_append]
  simp
theorem okD_iff {n r : Nat} : okD n r 6 = true ↔ ∀ c, c < 6 → n ≤ c → dgN r c = 0 := by
  unfold okD
  rw [List.all_eq_true]
  constructor
  · intro h c hc hn
    have := of_decide_eq_true (h (5 - c) (List.mem_range.mpr (by omega)))
    rcases this with z | z
    · omega
    · exact z
  · intro h x hx
    have hx' := List.mem_range.mp hx
    refine decide_eq_true ?_
    by_cases q : 5 - x < n
    · exact Or.inl q
    · refine Or.inr ?_
      have := h (5 - x) (by omega) (by omega)
      unfold dgN at this
      rwa [show 5 - (5 - x) = x by omega] at this
theorem dgN_lt (r c : Nat) : dgN r c ≤ 6 := by have : itD r (5 - c) % 7 < 7 := Nat.mod_lt _ (by omega); unfold dgN; omega
theorem smD_6 (r : Nat) : (smD r 6 : Int) = smN (fun c => (dgN r c : Int)) 6 := by
  show ((0 + itD r 0 % 7 + itD r 1 % 7 + itD r 2 % 7 + itD r 3 % 7 + itD r 4 % 7 + itD r 5 % 7 : Nat) : Int) = 0 + (dgN r 0 : Int) + (dgN r 1 : Int) + (dgN r 2 : Int) + (dgN r 3 : Int) + (dgN r 4 : Int) + (dgN r 5 : Int)
  show ((0 + itD r 0 % 7 + itD r 1 % 7 + itD r 2 % 7 + itD r 3 % 7 + itD r 4 % 7 + itD r 5 % 7 : Nat) : Int) = 0 + ((itD r 5 % 7 : Nat) : Int) + ((itD r 4 % 7 : Nat) : Int) + ((itD r 3 % 7 : Nat) : Int) + ((itD r 2 % 7 : Nat) : Int) + ((itD r 1 % 7 : Nat) : Int) + ((itD r 0 % 7 : Nat) : Int)
  omega
theorem smN_cut {f : Nat → Int} {n : Nat} : ∀ m, n ≤ m → (∀ c, n ≤ c → c < m → f c = 0) → smN f m = smN f n
  | 0, h, _ => by rw [show n = 0 by omega]
  | m + 1, h, e => by
    by_cases q : n = m + 1
    · rw [q]
    · show smN f m + f m = _
      rw [smN_cut m (by omega) (fun c h1 h2 => e c h1 (by omega)), e m (by omega) (by omega)]
      omega
/-- what is known of the best so far -/
def bsK (κ : Nat → Int32) (n : Nat) (k : Nat → Nat) (r : Int) (s : qMem) : Prop := ((cdN k : Int) > r → gl s 0 44 = zL (vlG (gnS κ n) k n) ∧ ∀ c, c < 6 → gi s 26 c = zI (k c : Nat)) ∧ ((cdN k : Int) ≤ r → ∃ b : Int, gl s 0 44 = zL b ∧ -1 ≤ b ∧ b < vlG (gnS κ n) k n)
set_option maxHeartbeats 1000000 in
theorem r_searches {N : Nat} {τ : qMem} {k : Nat → Nat} {L : Nat} (hN : 200000 ≤ N) (hκ : τ.1 2 = κ) (hw : KW κ) (hn : kI κ 305 = n) (n6 : n ≤ 6) (hL : L ≤ 6) (inv : grI (gnS κ n) k n) (hs : smN (fun c => (k c : Int)) n = (if n = 0 then 0 else (L : Int))) (hz : ∀ c, n ≤ c → k c = 0) (k6 : ∀ c, c < 6 → k c ≤ 6) :
    Ho (fX12_searches N (zI L) τ) (fun t => gl t 0 44 = zL (vlG (gnS κ n) k n) ∧ (∀ c, c < 6 → gi t 26 c = zI (k c : Nat)) ∧ ∀ a j, a ≠ 25 → a ≠ 26 → gi t a j = gi τ a j) := by
  obtain ⟨R1, R2⟩ := cd_dg k6
  have vr := vl_rng hw hn n6 (fun c hc => k6 c (by omega))
  have g305 : gi τ 2 305 = zI n := by rw [← hn, ← hκ]; exact (zI_of _).symm
  have Lr : (0 : Int) ≤ (if n = 0 then 0 else (L : Int)) ∧ (if n = 0 then 0 else (L : Int)) ≤ 6 := by split <;> omega
  -- a way, against the best
  have cmp : ∀ r : Nat, r ≤ 117648 → okD n r 6 = true → (smD r 6 : Int) = (if n = 0 then 0 else (L : Int)) → vlG (gnS κ n) (dgN r) n ≤ vlG (gnS κ n) k n ∧ (cdN k < r → vlG (gnS κ n) (dgN r) n < vlG (gnS κ n) k n) := by
    intro r hr ho hsum
    have z := okD_iff.mp ho
    have e : smN (fun c => (k c : Int)) n = smN (fun c => (dgN r c : Int)) n := by
      rw [hs, ← hsum, smD_6, smN_cut 6 n6 (fun c h1 h2 => by rw [z c h2 h1]; rfl)]
    obtain ⟨a, b⟩ := greedy_opt (gn_anti hw hn) inv e
    refine ⟨a, fun hlt => ?_⟩
    obtain ⟨x, x1, x2, x3⟩ := lex_gt hr hlt
    have hxn : x < n := by
      by_cases q : x < n
      · exact q
      · have := z x x1 (by omega); omega
    refine b x hxn (by rw [← R2 x x1]; exact x2) (fun c hc => ?_)
    rw [← R2 c (by omega)]
    exact x3 c hc
  unfold fX12_searches
  rw [if_pos (by decide), show (305 : Int32).toNatClampNeg = 305 from rfl, g305]
  simp only [nmI, nmM]
  -- the zeros
  have zer := lp_for (S := qMem) (R := qMem) (fun m i s => fX12_searches_l18 N m (zI L) (zI n) (zI i) s) (fun i s => 0 ≤ i ∧ gl s 0 44 = zL (-1) ∧ ∀ a j, a ≠ 25 → a ≠ 26 → gi s a j = gi τ a j) (fun t => gl t 0 44 = zL (vlG (gnS κ n) k n) ∧ (∀ c, c < 6 → gi t 26 c = zI (k c : Nat)) ∧ ∀ a j, a ≠ 25 → a ≠ 26 → gi t a j = gi τ a j) 6 ?_ ?_ N 0 (sl τ 0 44 (-1)) (by omega) (by omega) ⟨by omega, by rw [gl_slx, if_pos ⟨rfl, rfl⟩]; rfl, fun a j _ _ => by rw [gi_slx]⟩
  · exact zer
  · intro m s ⟨_, h1, h2⟩
    show Ho (fX12_searches_s18 N _ _ _ _ _) _
    unfold fX12_searches_s18
    rw [if_pos (by decide)]
    have all := lp_for (S := qMem) (R := qMem) (fun m i s => fX12_searches_l41 N m (zI L) (zI n) (zI (117648 - i)) s) (fun i s => 0 ≤ i ∧ bsK κ n k (117648 - i) s ∧ ∀ a j, a ≠ 25 → a ≠ 26 → gi s a j = gi τ a j) (fun t => gl t 0 44 = zL (vlG (gnS κ n) k n) ∧ (∀ c, c < 6 → gi t 26 c = zI (k c : Nat)) ∧ ∀ a j, a ≠ 25 → a ≠ 26 → gi t a j = gi τ a j) 117649 ?_ ?_ N 0 s (by omega) (by omega) ⟨by omega, ⟨fun z => by omega, fun _ => ⟨-1, h1, by omega, by omega⟩⟩, h2⟩
    · exact all
    · intro m s ⟨_, hb, hf⟩
      show Ho (fX12_searches_s41 N _ _ _ _ _) _
      unfold fX12_searches_s41
      have c1 : (zI (117648 - 117649) < 0) = True := by decide
      simp only [c1, if_true]
      have := hb.1 (by omega)
      exact Ho_some ⟨this.1, this.2, hf⟩
    · intro m i s hi ⟨i0, hb, hf⟩ hc
      obtain ⟨r, hr⟩ : ∃ r : Nat, (r : Int) = 117648 - i := ⟨(117648 - i).toNat, by omega⟩
      rw [← hr] at hb
      rw [← hr]
      show Ho (fX12_searches_s41 N _ _ _ _ _) _
      unfold fX12_searches_s41
      have c1 : (zI (r : Int) < 0) = False := by rw [show (0 : Int32) = zI 0 from rfl, zI_lt (by omega) (by omega) (by omega) (by omega)]; exact eq_false (by omega)
      simp only [c1, if_false]
      have next : ∀ t : qMem, bsK κ n k ((r : Int) - 1) t → (∀ a j, a ≠ 25 → a ≠ 26 → gi t a j = gi τ a j) → Ho (fX12_searches_b204 N (fX12_searches_l41 N m) (zI L) (zI n) (zI (r : Int)) t) (fun t => gl t 0 44 = zL (vlG (gnS κ n) k n) ∧ (∀ c, c < 6 → gi t 26 c = zI (k c : Nat)) ∧ ∀ a j, a ≠ 25 → a ≠ 26 → gi t a j = gi τ a j) := by
        intro t ht hft
        unfold fX12_searches_b204
        rw [show zI (r : Int) + (-1) = zI (117648 - (i + 1)) by rw [show (-1 : Int32) = zI (-1) from rfl, zI_add]; congr 1; omega]
        refine hc t ⟨by omega, ?_, hft⟩
        rw [show 117648 - (i + 1) = (r : Int) - 1 by omega]
        exact ht
      have skip : ∀ t : qMem, (∀ a j, a ≠ 25 → gi t a j = gi s a j) → (∀ a j, gl t a j = gl s a j) → (cdN k = r → False) → bsK κ n k ((r : Int) - 1) t := by
        intro t h1 h2 h3'
        have h3 : ¬ cdN k = r := h3'
        refine ⟨fun z => ?_, fun z => ?_⟩
        · obtain ⟨a, b⟩ := hb.1 (by omega)
          exact ⟨(h2 0 44).trans a, fun c hc => (h1 26 c (by omega)).trans (b c hc)⟩
        · obtain ⟨b, b1, b2⟩ := hb.2 (by omega)
          exact ⟨b, (h2 0 44).trans b1, b2⟩
      have dig := lp_for (S := qMem) (R := qMem) (fun m' x t => fX12_searches_l57 N (fX12_searches_l41 N m) m' (zI L) (zI n) (zI (r : Int)) (zI (itD r x.toNat : Nat)) (zI (smD r x.toNat : Nat)) (bI (okD n r x.toNat)) (zI (5 - x)) t) (fun x t => 0 ≤ x ∧ (∀ c : Nat, c < 6 → 6 - x ≤ (c : Int) → gi t 25 c = zI (dgN r c : Nat)) ∧ (∀ a j, a ≠ 25 → gi t a j = gi s a j) ∧ ∀ a j, gl t a j = gl s a j) (fun t => gl t 0 44 = zL (vlG (gnS κ n) k n) ∧ (∀ c, c < 6 → gi t 26 c = zI (k c : Nat)) ∧ ∀ a j, a ≠ 25 → a ≠ 26 → gi t a j = gi τ a j) 6 ?_ ?_ N 0 s (by omega) (by omega) ⟨by omega, fun c hc z => by omega, fun _ _ _ => rfl, fun _ _ => rfl⟩
      · exact dig
      · intro m' t ⟨_, d1, d2, d3⟩
        show Ho (fX12_searches_s57 N _ _ _ _ _ _ _ _ _ _) _
        unfold fX12_searches_s57
        have c2 : (zI (5 - 6) < 0) = True := by decide
        simp only [c2, if_true, if_bI]
        have ft : ∀ a j, a ≠ 25 → a ≠ 26 → gi t a j = gi τ a j := fun a j h1 h2 => (d2 a j h1).trans (hf a j h1 h2)
        have kt : t.1 2 = κ := by rw [← hκ]; exact funext fun j => ft 2 j (by omega) (by omega)
        have sD := smD_le r 6
        have cn0 : (zI n = 0) = (n = 0) := by rw [show (0 : Int32) = zI 0 from rfl, zI_eq (by omega) (by omega) (by omega) (by omega)]; exact propext (by omega)
        have eN : Int.toNat 6 = 6 := rfl
        rw [eN]
        by_cases qo : okD n r 6 = true
        · rw [if_pos qo]
          simp only [cn0]
          have b143 : ∀ u : Int, u = (if n = 0 then 0 else (L : Int)) → Ho (fX12_searches_b143 N (fX12_searches_l41 N m) (zI L) (zI n) (zI (r : Int)) (zI (smD r 6 : Nat)) (zI u) t) (fun t => gl t 0 44 = zL (vlG (gnS κ n) k n) ∧ (∀ c, c < 6 → gi t 26 c = zI (k c : Nat)) ∧ ∀ a j, a ≠ 25 → a ≠ 26 → gi t a j = gi τ a j) := by
            intro u hu
            unfold fX12_searches_b143
            have cs : (zI (smD r 6 : Nat) = zI u) = ((smD r 6 : Int) = u) := by rw [zI_eq (by omega) (by omega) (by omega) (by omega)]
            simp only [cs]
            by_cases qs : (smD r 6 : Int) = u
            · rw [if_pos qs]
              obtain ⟨cm1, cm2⟩ := cmp r (by omega) qo (by rw [qs, hu])
              have vr' := vl_rng hw hn n6 (k := dgN r) (fun c _ => dgN_lt r c)
              rw [r_chance hN kt hw hn n6 (fun c hc => d1 c hc (by omega)) (fun c _ => dgN_lt r c), Option.bind_some]
              have copy : cdN k ≤ r → Ho (fX12_searches_l177 N (fX12_searches_l41 N m) N (zI L) (zI n) (zI (r : Int)) 0 (sl t 0 44 (zL (vlG (gnS κ n) (dgN r) n)))) (fun t => gl t 0 44 = zL (vlG (gnS κ n) k n) ∧ (∀ c, c < 6 → gi t 26 c = zI (k c : Nat)) ∧ ∀ a j, a ≠ 25 → a ≠ 26 → gi t a j = gi τ a j) := by
                intro hRr
                have cpy := lp_for (S := qMem) (R := qMem) (fun m' x t => fX12_searches_l177 N (fX12_searches_l41 N m) m' (zI L) (zI n) (zI (r : Int)) (zI x) t) (fun x w => 0 ≤ x ∧ (∀ c : Nat, c < 6 → gi w 25 c = zI (dgN r c : Nat)) ∧ (∀ c : Nat, c < 6 → (c : Int) < x → gi w 26 c = zI (dgN r c : Nat)) ∧ gl w 0 44 = zL (vlG (gnS κ n) (dgN r) n) ∧ ∀ a j, a ≠ 25 → a ≠ 26 → gi w a j = gi τ a j) (fun t => gl t 0 44 = zL (vlG (gnS κ n) k n) ∧ (∀ c, c < 6 → gi t 26 c = zI (k c : Nat)) ∧ ∀ a j, a ≠ 25 → a ≠ 26 → gi t a j = gi τ a j) 6 ?_ ?_ N 0 (sl t 0 44 (zL (vlG (gnS κ n) (dgN r) n))) (by omega) (by omega) ⟨by omega, fun c hc => by rw [gi_slx]; exact d1 c hc (by omega), fun c hc z => by omega, by rw [gl_slx, if_pos ⟨rfl, rfl⟩], fun a j h1 h2 => by rw [gi_slx]; exact ft a j h1 h2⟩
                · exact cpy
                · intro m' w ⟨_, w1, w2, w3, w4⟩
                  show Ho (fX12_searches_s177 N _ _ _ _ _ _ _) _
                  unfold fX12_searches_s177
                  rw [if_pos (by decide)]
                  refine next w ⟨fun z => ?_, fun z => ?_⟩ w4
                  · by_cases e : cdN k = r
                    · have ed : ∀ c, c < 6 → dgN r c = k c := fun c hc => by rw [← e]; exact R2 c hc
                      refine ⟨?_, fun c hc => by rw [w2 c hc (by omega), ed c hc]⟩
                      rw [w3]
                      congr 1
                      exact smN_cong n (fun c hc => by rw [ed c (by omega)])
                    · omega
                  · exact ⟨_, w3, by omega, cm2 (by omega)⟩
                · intro m' x w hx ⟨x0, w1, w2, w3, w4⟩ hc2
                  show Ho (fX12_searches_s177 N _ _ _ _ _ _ _) _
                  unfold fX12_searches_s177
                  have c3 : (6 ≤ zI x) = False := by rw [show (6 : Int32) = zI 6 from rfl, zI_le (by omega) (by omega) (by omega) (by omega)]; exact eq_false (by omega)
                  have kx : (ck (zI x) 6 = true) = True := zI_ckT (by omega) (by omega) (by omega)
                  have zx : (zI x).toNatClampNeg = x.toNat := zI_clamp (by omega) (by omega)
                  simp only [c3, if_false, kx, zx, if_true, nmM]
                  rw [show zI x + 1 = zI (x + 1) by rw [show (1 : Int32) = zI 1 from rfl, zI_add]]
                  refine hc2 _ ⟨by omega, fun c hc => by rw [gi_si, if_neg (by omega)]; exact w1 c hc, fun c hc z => ?_, w3, fun a j h1 h2 => by rw [gi_si, if_neg (by omega)]; exact w4 a j h1 h2⟩
                  rw [gi_si]
                  by_cases e : c = x.toNat
                  · rw [if_pos ⟨rfl, e⟩, ← e]; exact w1 c hc
                  · rw [if_neg (by omega)]; exact w2 c hc (by omega)
              by_cases qR : (cdN k : Int) ≤ r
              · obtain ⟨bb, b1, b2, b3⟩ := hb.2 qR
                have lc : (0 < lg_cmp (zL (vlG (gnS κ n) (dgN r) n)) (gl t 0 44)) = (bb < vlG (gnS κ n) (dgN r) n) := by
                  rw [d3 0 44, b1]
                  exact propext ((lg_cmp_gt _ _).trans (by rw [zL_lt (by omega) (by omega) (by omega) (by omega)]))
                simp only [lc]
                by_cases ql : bb < vlG (gnS κ n) (dgN r) n
                · rw [if_pos ql]
                  exact copy (by omega)
                · rw [if_neg ql]
                  refine next t (skip t d2 d3 (fun e => ql ?_)) ft
                  have ed : ∀ c, c < 6 → dgN r c = k c := fun c hc => by rw [← e]; exact R2 c hc
                  have : vlG (gnS κ n) (dgN r) n = vlG (gnS κ n) k n := smN_cong n (fun c hc => by rw [ed c (by omega)])
                  omega
              · obtain ⟨b1, b2⟩ := hb.1 (by omega)
                have lc : (0 < lg_cmp (zL (vlG (gnS κ n) (dgN r) n)) (gl t 0 44)) = False := by
                  rw [d3 0 44, b1]
                  exact eq_false (fun z => by
                    have := (lg_cmp_gt _ _).mp z
                    rw [zL_lt (by omega) (by omega) (by omega) (by omega)] at this
                    omega)
                simp only [lc, if_false]
                exact next t (skip t d2 d3 (fun e => by omega)) ft
            · rw [if_neg qs]
              refine next t (skip t d2 d3 (fun e => qs ?_)) ft
              have ed : ∀ c, c < 6 → dgN r c = k c := fun c hc => by rw [← e]; exact R2 c hc
              rw [smD_6, hu, ← hs, ← smN_cut (f := fun c => (k c : Int)) 6 n6 (fun c h1 h2 => by rw [hz c h1]; rfl)]
              exact smN_cong 6 (fun c hc => by rw [ed c hc])
          by_cases q0 : n = 0
          · rw [if_pos q0]; exact b143 0 (by rw [if_pos q0])
          · rw [if_neg q0]; exact b143 L (by rw [if_neg q0])
        · rw [if_neg qo]
          refine next t (skip t d2 d3 (fun e => qo ?_)) ft
          rw [okD_iff]
          intro c hc hnc
          rw [← e, R2 c hc]
          exact hz c hnc
      · intro m' x t hx ⟨x0, d1, d2, d3⟩ hc2
        show Ho (fX12_searches_s57 N _ _ _ _ _ _ _ _ _ _) _
        unfold fX12_searches_s57 fX12_searches_b118 fX12_searches_b114 fX12_searches_b119
        obtain ⟨y, rfl⟩ : ∃ y : Nat, x = y := ⟨x.toNat, by omega⟩
        rw [show ((y : Int)).toNat = y from rfl]
        have il := itD_le r y
        have sD := smD_le r y
        have c2 : (zI (5 - (y : Int)) < 0) = False := by rw [show (0 : Int32) = zI 0 from rfl, zI_lt (by omega) (by omega) (by omega) (by omega)]; exact eq_false (by omega)
        have ky : (ck (zI (5 - (y : Int))) 6 = true) = True := zI_ckT (by omega) (by omega) (by omega)
        have zy : (zI (5 - (y : Int))).toNatClampNeg = 5 - y := by rw [zI_clamp (by omega) (by omega)]; omega
        have rm : irm (zI (itD r y : Nat)) 7 = zI ((itD r y % 7 : Nat) : Int) := by rw [show (7 : Int32) = zI 7 from rfl, zI_rem (by omega) (by omega) (by omega) (by omega)]; rfl
        have dv : zI (itD r y : Nat) / 7 = zI ((itD r (y + 1) : Nat) : Int) := by rw [show (7 : Int32) = zI 7 from rfl, zI_divp (by omega) (by omega) (by omega) (by omega)]; rfl
        have gs : gi (si t 25 (5 - y) (zI ((itD r y % 7 : Nat) : Int))) 25 (5 - y) = zI ((itD r y % 7 : Nat) : Int) := by rw [gi_si, if_pos ⟨rfl, rfl⟩]
        have ad : zI (smD r y : Nat) + zI ((itD r y % 7 : Nat) : Int) = zI ((smD r (y + 1) : Nat) : Int) := by rw [zI_add]; rfl
        have cv : (zI (5 - (y : Int)) < zI n) = (5 - y < n) := by rw [zI_lt (by omega) (by omega) (by omega) (by omega)]; exact propext (by omega)
        have cz : (zI ((itD r y % 7 : Nat) : Int) = 0) = (itD r y % 7 = 0) := by rw [show (0 : Int32) = zI 0 from rfl, zI_eq (by omega) (by omega) (by omega) (by omega)]; exact propext (by omega)
        have nx : zI (5 - (y : Int)) + (-1) = zI (5 - ((y : Int) + 1)) := by rw [show (-1 : Int32) = zI (-1) from rfl, zI_add]; congr 1; omega
        simp only [c2, if_false, ky, zy, if_true, rm, dv, nmM, nmI, gs, ad, if_bI, cv, cz, nx]
        have hcn := hc2 (si t 25 (5 - y) (zI ((itD r y % 7 : Nat) : Int))) ⟨by omega, fun c hc z => by
            rw [gi_si]
            by_cases e : c = 5 - y
            · rw [if_pos ⟨rfl, e⟩]
              unfold dgN
              rw [show 5 - c = y by omega]
            · rw [if_neg (by omega)]; exact d1 c hc (by omega), fun a j ha => by rw [gi_si, if_neg (by omega)]; exact d2 a j ha, d3⟩
        rw [show ((y : Int) + 1).toNat = y + 1 from rfl, okD_succ] at hcn
        cases qo : okD n r y with
        | false =>
          rw [qo, Bool.false_and] at hcn
          rw [if_neg (c := false = true) (by decide)]
          exact hcn
        | true =>
          rw [qo, Bool.true_and] at hcn
          rw [if_pos rfl]
          by_cases q1 : 5 - y < n
          · rw [if_pos q1]
            rw [decide_eq_true (Or.inl q1)] at hcn
            exact hcn
          · rw [if_neg q1]
            by_cases q2 : itD r y % 7 = 0
            · rw [if_pos q2]
              rw [decide_eq_true (Or.inr q2)] at hcn
              exact hcn
            · rw [if_neg q2]
              rw [decide_eq_false (by omega)] at hcn
              exact hcn
  · intro m i s hi ⟨i0, h1, h2⟩ hc
    show Ho (fX12_searches_s18 N _ _ _ _ _) _
    unfold fX12_searches_s18
    have c3 : (6 ≤ zI i) = False := by rw [show (6 : Int32) = zI 6 from rfl, zI_le (by omega) (by omega) (by omega) (by omega)]; exact eq_false (by omega)
    have kx : (ck (zI i) 6 = true) = True := zI_ckT (by omega) (by omega) (by omega)
    have zx : (zI i).toNatClampNeg = i.toNat := zI_clamp (by omega) (by omega)
    simp only [c3, if_false, kx, zx, if_true, nmM]
    rw [show zI i + 1 = zI (i + 1) by rw [show (1 : Int32) = zI 1 from rfl, zI_add]]
    exact hc _ ⟨by omega, h1, fun a j q1 q2 => by rw [gi_si, if_neg (by omega)]; exact h2 a j q1 q2⟩
end ALL
