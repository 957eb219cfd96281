/-! the class's steps: what they leave -/
def ldC (K base : Nat) (c : List (Int × Int)) (σ : qMem) : Prop := ∀ k x, c[k]? = some x → gi σ (K + 3) (base + k) = zI x.1 ∧ gi σ (K + 4) (base + k) = zI x.2
def envK (K : Nat) (e : Nat → Int) (σ : qMem) : Prop := ∀ w, w < 5 → gi σ (K + 5) w = zI (e w) ∧ smE (e w)
def bV (b : Bool) : Int := if b then 1 else 0
def Wk (N K : Nat) (e : Nat → Int) (c : Nat → List (Int × Int)) (f : Option Int) (need : Nat) : Prop := ∀ (base to h n sz : Nat) (σ : qMem) (Q : Int32 × qMem → Prop), ldC K base (c base) σ → envK K e σ → gi σ K 5 = zI sz → to ≤ sz → sz ≤ 400 → base + (c base).length ≤ to → gi σ K 6 = zI h → h + need ≤ 64 → to < n + base →
  (f = none → (∀ σ', frK K σ σ' → Q (0, σ')) → Ho (fX5_work_l11 N K n (zI to) (zI base) σ) Q) ∧
  (∀ v, f = some v → (∀ σ' n', pushed K h v σ σ' → to < n' + (base + (c base).length) → Ho (fX5_work_l11 N K n' (zI to) (zI ((base + (c base).length : Nat) : Int)) σ') Q) → Ho (fX5_work_l11 N K n (zI to) (zI base) σ) Q)
theorem Wk_mono {N K : Nat} {e : Nat → Int} {c : Nat → List (Int × Int)} {f : Option Int} {m m' : Nat} (h : Wk N K e c f m) (hm : m ≤ m') : Wk N K e c f m' :=
  fun base to hh n sz σ Q a1 a2 a3 a4 a5 a6 a7 a8 a9 => h base to hh n sz σ Q a1 a2 a3 a4 a5 a6 a7 (by omega) a9
theorem ldC_fr {K base : Nat} {c : List (Int × Int)} {σ σ' : qMem} (h : ldC K base c σ) (f : frK K σ σ') : ldC K base c σ' := fun k x hk => ⟨(f _ _ (by omega)).trans (h k x hk).1, (f _ _ (by omega)).trans (h k x hk).2⟩
theorem ldC_l {K base : Nat} {c d : List (Int × Int)} {σ : qMem} (h : ldC K base (c ++ d) σ) : ldC K base c σ := fun k x hk => h k x (by rw [List.getElem?_append_left (getElem_lt hk)]; exact hk)
theorem ldC_r {K base : Nat} {c d : List (Int × Int)} {σ : qMem} (h : ldC K base (c ++ d) σ) : ldC K (base + c.length) d σ := fun k x hk => by
  have := h (c.length + k) x (by rw [List.getElem?_append_right (by omega), show c.length + k - c.length = k by omega]; exact hk)
  rw [show base + c.length + k = base + (c.length + k) by omega]
  exact this
theorem envK_fr {K : Nat} {e : Nat → Int} {σ σ' : qMem} (h : envK K e σ) (f : frK K σ σ') : envK K e σ' := fun w hw => ⟨(f _ _ (by omega)).trans (h w hw).1, (h w hw).2⟩
/-- a step is taken -/
theorem w_step {N K n pc to sz : Nat} {o v : Int} {σ : qMem} (h5 : gi σ K 5 = zI sz) (hs : to ≤ sz) (h4 : sz ≤ 400) (hp : pc < to) (ho : gi σ (K + 3) pc = zI o) (hv : gi σ (K + 4) pc = zI v) (o0 : 0 ≤ o) (o1 : o ≤ 11) :
    fX5_work_l11 N K (n + 1) (zI to) (zI pc) σ =
      if o = 0 then ((fX5_lay K (zI v).toInt64 σ).bind fun y8 => (fX5_work_l11 N K n (zI to) (zI ((pc + 1 : Nat) : Int)) y8)) else
      if o = 1 then ((fJ9_floorMod_7cf53 (zI v) 5).bind fun y6 => (if ck y6 5 = true then ((fX5_lay K (gi σ (K + 5) y6.toNatClampNeg).toInt64 σ).bind fun y7 => (fX5_work_l11 N K n (zI to) (zI ((pc + 1 : Nat) : Int)) y7)) else none)) else
      if 1 ≤ (gi σ K 6) then (if o = 9 then (if ck ((gi σ K 6) - 1) 64 = true then fX5_work_l11 N K n (zI to) (zI ((pc + 1 : Nat) : Int)) (sl σ (K + 6) ((gi σ K 6) - 1).toNatClampNeg (1 - (gl σ (K + 6) ((gi σ K 6) - 1).toNatClampNeg))) else none) else (if o = 10 then (fX5_work_b142 N K (fX5_work_l11 N K n) (zI to) (zI pc) (zI o) σ) else (if o = 11 then (fX5_work_b142 N K (fX5_work_l11 N K n) (zI to) (zI pc) (zI o) σ) else ((fX5_joinTwo K (zI o) σ).bind fun y4 => (if y4.1 = 0 then (some (0, y4.2)) else (fX5_work_l11 N K n (zI to) (zI ((pc + 1 : Nat) : Int)) y4.2)))))) else (some (0, σ)) := by
  show fX5_work_s11 N K _ (zI to) (zI pc) σ = _
  unfold fX5_work_s11 fX5_work_b218
  have c1 : (zI to ≤ zI pc) = False := by rw [zI_le (by omega) (by omega) (by omega) (by omega)]; exact eq_false (by omega)
  have c2 : (zI sz ≤ zI pc) = False := by rw [zI_le (by omega) (by omega) (by omega) (by omega)]; exact eq_false (by omega)
  have k0 : (ck (zI pc) 400 = true) = True := zI_ckT (by omega) (by omega) (by omega)
  have z0 : (zI pc).toNatClampNeg = pc := by rw [zI_clamp (by omega) (by omega)]; omega
  have nx : zI pc + 1 = zI ((pc + 1 : Nat) : Int) := by rw [show (1 : Int32) = zI 1 from rfl, zI_add]; rfl
  have oe : ∀ c : Int, 0 ≤ c → c ≤ 20 → (zI o = zI c) = (o = c) := fun c c0 c1 => by rw [zI_eq (by omega) (by omega) (by omega) (by omega)]
  have o0' : (zI o = 0) = (o = 0) := oe 0 (by omega) (by omega)
  have o1' : (zI o = 1) = (o = 1) := oe 1 (by omega) (by omega)
  have o9' : (zI o = 9) = (o = 9) := oe 9 (by omega) (by omega)
  have oA' : (zI o = 10) = (o = 10) := oe 10 (by omega) (by omega)
  have oB' : (zI o = 11) = (o = 11) := oe 11 (by omega) (by omega)
  simp only [c1, if_false, h5, c2, k0, if_true, z0, ho, hv, nmI, nx, o0', o1', o9', oA', oB', nmM]
  split
  · rfl
  · split
    · rfl
    · split
      · split
        · split <;> rfl
        · rfl
      · rfl
theorem w_num {N K : Nat} {e : Nat → Int} {v : Int} (h1 : -2147483648 ≤ v) (h2 : v < 2147483648) : Wk N K e (fun _ => [(0, v)]) (some v) 1 := by
  intro base to h n sz σ Q a1 a2 a3 a4 a5 a6 a7 a8 a9
  simp only [List.length_cons, List.length_nil] at a6
  refine ⟨fun z => by simp at z, fun w hw hQ => ?_⟩
  have : v = w := by simpa using hw
  subst this
  obtain ⟨n, rfl⟩ : ∃ k, n = k + 1 := ⟨n - 1, by omega⟩
  obtain ⟨g1, g2⟩ := a1 0 (0, v) rfl
  simp only [Nat.add_zero] at g1 g2
  rw [w_step (o := 0) (v := v) a3 a4 a5 (by omega) g1 g2 (by omega) (by omega), if_pos rfl, zI_long h1 h2]
  obtain ⟨σ', e1, p⟩ := e_lay (v := v) a7 (by omega)
  rw [e1, Option.bind_some]
  exact hQ σ' n p (by simp only [List.length_cons, List.length_nil]; omega)
theorem w_wrd {N K : Nat} {e : Nat → Int} {w : Int} (h1 : 0 ≤ w) (h2 : w ≤ 4) : Wk N K e (fun _ => [(1, w)]) (some (e w.toNat)) 1 := by
  intro base to h n sz σ Q a1 a2 a3 a4 a5 a6 a7 a8 a9
  simp only [List.length_cons, List.length_nil] at a6
  refine ⟨fun z => by simp at z, fun x hx hQ => ?_⟩
  have : e w.toNat = x := by simpa using hx
  subst this
  obtain ⟨n, rfl⟩ : ∃ k, n = k + 1 := ⟨n - 1, by omega⟩
  obtain ⟨g1, g2⟩ := a1 0 (1, w) rfl
  simp only [Nat.add_zero] at g1 g2
  obtain ⟨ew, es⟩ := a2 w.toNat (by omega)
  unfold smE at es
  have m : fJ9_floorMod_7cf53 (zI w) 5 = some (zI w) := by
    rw [show (5 : Int32) = zI 5 from rfl, e_fmod (by omega) (by omega) (by omega) (by omega)]
    congr 2
    omega
  have k0 : (ck (zI w) 5 = true) = True := zI_ckT (by omega) (by omega) (by omega)
  have z0 : (zI w).toNatClampNeg = w.toNat := zI_clamp (by omega) (by omega)
  rw [w_step (o := 1) (v := w) a3 a4 a5 (by omega) g1 g2 (by omega) (by omega), if_neg (by omega), if_pos rfl, m, Option.bind_some]
  simp only [k0, if_true, z0, ew]
  rw [zI_long (by omega) (by omega)]
  obtain ⟨σ', e1, p⟩ := e_lay (v := e w.toNat) a7 (by omega)
  rw [e1, Option.bind_some]
  exact hQ σ' n p (by simp only [List.length_cons, List.length_nil]; omega)
theorem w_op {N K : Nat} {e : Nat → Int} {ca cb : List (Int × Int)} {fa fb : Option Int} {m m' M : Nat} {o : Int} (o1 : 2 ≤ o) (o2 : o ≤ 8) (ha : Wk N K e (fun _ => ca) fa m) (hb : Wk N K e (fun _ => cb) fb m') (m1 : m ≤ M) (m2 : m' + 1 ≤ M) (m3 : 2 ≤ M) (sa : ∀ v, fa = some v → smE v) (sb : ∀ v, fb = some v → smE v) :
    Wk N K e (fun _ => ca ++ cb ++ [(o, 0)]) (fa.bind fun x => fb.bind fun y => if -1000000000 ≤ jnR o x y ∧ jnR o x y ≤ 1000000000 then some (jnR o x y) else none) M := by
  intro base to h n sz σ Q a1 a2 a3 a4 a5 a6 a7 a8 a9
  simp only at a1
  simp only [List.length_append, List.length_cons, List.length_nil] at a6
  have la : ldC K base ca σ := ldC_l (ldC_l a1)
  have lb : ldC K (base + ca.length) cb σ := ldC_r (ldC_l a1)
  have lo : ldC K (base + ca.length + cb.length) [(o, 0)] σ := by
    have := ldC_r a1
    rwa [List.length_append, ← Nat.add_assoc] at this
  obtain ⟨an, as⟩ := ha base to h n sz σ Q la a2 a3 a4 a5 (show base + ca.length ≤ to by omega) a7 (by omega) a9
  -- behind both
  have rest : ∀ x y, fa = some x → fb = some y → ((if -1000000000 ≤ jnR o x y ∧ jnR o x y ≤ 1000000000 then (∀ σ' n', pushed K h (jnR o x y) σ σ' → to < n' + (base + (ca ++ cb ++ [(o, 0)]).length) → Ho (fX5_work_l11 N K n' (zI to) (zI ((base + (ca ++ cb ++ [(o, 0)]).length : Nat) : Int)) σ') Q) else (∀ σ', frK K σ σ' → Q (0, σ')))) → Ho (fX5_work_l11 N K n (zI to) (zI base) σ) Q := by
    intro x y hx hy hQ
    refine as x hx (fun σ1 n1 p1 hn1 => ?_)
    simp only at hn1
    obtain ⟨f1, g1, t1, u1⟩ := p1
    obtain ⟨bn, bs⟩ := hb (base + ca.length) to (h + 1) n1 sz σ1 Q (ldC_fr lb f1) (envK_fr a2 f1) ((f1 _ _ (by omega)).trans a3) a4 a5 (show base + ca.length + cb.length ≤ to by omega) g1 (by omega) hn1
    refine bs y hy (fun σ2 n2 p2 hn2 => ?_)
    simp only at hn2
    obtain ⟨f2, g2, t2, u2⟩ := p2
    obtain ⟨n2, rfl⟩ : ∃ k, n2 = k + 1 := ⟨n2 - 1, by omega⟩
    obtain ⟨q1, q2⟩ := ldC_fr (ldC_fr lo f1) f2 0 (o, 0) rfl
    simp only [Nat.add_zero] at q1 q2
    have ch : (1 ≤ gi σ2 K 6) = True := by rw [g2, show (1 : Int32) = zI 1 from rfl, zI_le (by omega) (by omega) (by omega) (by omega)]; exact eq_true (by omega)
    show Ho (fX5_work_l11 N K (n2 + 1) (zI to) (zI ((base + ca.length + cb.length : Nat) : Int)) σ2) Q
    rw [w_step (o := o) (v := 0) (((frK_trans f1 f2) _ _ (by omega)).trans a3) a4 a5 (by omega) q1 q2 (by omega) (by omega), if_neg (by omega), if_neg (by omega)]
    simp only [ch, if_true]
    rw [if_neg (by omega), if_neg (by omega), if_neg (by omega)]
    obtain ⟨σ3, e3, p3⟩ := e_join (K := K) (h := h) (o := o) (x := x) (y := y) g2 (by omega) o1 o2 ((u2 h (by omega)).trans t1) t2 (sa x hx) (sb y hy)
    obtain ⟨f3, g3, t3, u3⟩ := p3
    rw [e3, Option.bind_some]
    by_cases q : -1000000000 ≤ jnR o x y ∧ jnR o x y ≤ 1000000000
    · rw [if_pos q] at hQ
      rw [decide_eq_true q, if_neg (show ¬ (bI true, σ3).1 = 0 from n10)]
      have := hQ σ3 n2 ⟨frK_trans f1 (frK_trans f2 f3), g3, t3, fun i hi => (u3 i hi).trans ((u2 i (by omega)).trans (u1 i hi))⟩ (by simp only [List.length_append, List.length_cons, List.length_nil]; omega)
      have ll : base + (ca ++ cb ++ [(o, 0)]).length = base + ca.length + cb.length + 1 := by
        simp only [List.length_append, List.length_cons, List.length_nil]
        omega
      rw [ll] at this
      exact this
    · rw [if_neg q] at hQ
      rw [decide_eq_false q, if_pos (show (bI false, σ3).1 = 0 from rfl)]
      exact Ho_some (hQ σ3 (frK_trans f1 (frK_trans f2 f3)))
  refine ⟨fun z hQ => ?_, fun v hv hQ => ?_⟩
  · cases hfa : fa with
    | none => exact an hfa hQ
    | some x =>
      cases hfb : fb with
      | none =>
        refine as x hfa (fun σ1 n1 p1 hn1 => ?_)
        simp only at hn1
        obtain ⟨f1, g1, t1, u1⟩ := p1
        obtain ⟨bn, bs⟩ := hb (base + ca.length) to (h + 1) n1 sz σ1 Q (ldC_fr lb f1) (envK_fr a2 f1) ((f1 _ _ (by omega)).trans a3) a4 a5 (show base + ca.length + cb.length ≤ to by omega) g1 (by omega) hn1
        exact bn hfb (fun σ' f' => hQ σ' (frK_trans f1 f'))
      | some y =>
        refine rest x y hfa hfb ?_
        rw [hfa, hfb] at z
        simp only [Option.bind_some] at z
        by_cases q : -1000000000 ≤ jnR o x y ∧ jnR o x y ≤ 1000000000
        · rw [if_pos q] at z; simp at z
        · rw [if_neg q]; exact hQ
  · cases hfa : fa with
    | none => rw [hfa] at hv; simp at hv
    | some x =>
      cases hfb : fb with
      | none => rw [hfa, hfb] at hv; simp at hv
      | some y =>
        refine rest x y hfa hfb ?_
        rw [hfa, hfb] at hv
        simp only [Option.bind_some] at hv
        by_cases q : -1000000000 ≤ jnR o x y ∧ jnR o x y ≤ 1000000000
        · rw [if_pos q] at hv ⊢
          have : jnR o x y = v := by simpa using hv
          rw [this]
          exact hQ
        · rw [if_neg q] at hv; simp at hv
theorem w_not {N K : Nat} {e : Nat → Int} {c : Nat → List (Int × Int)} {f : Option Bool} {m : Nat} (m1 : 1 ≤ m) (h : Wk N K e c (f.map bV) m) : Wk N K e (fun s => c s ++ [(9, 0)]) ((f.map (fun x => !x)).map bV) m := by
  intro base to hh n sz σ Q a1 a2 a3 a4 a5 a6 a7 a8 a9
  simp only at a1
  simp only [List.length_append, List.length_cons, List.length_nil] at a6
  obtain ⟨an, as⟩ := h base to hh n sz σ Q (ldC_l a1) a2 a3 a4 a5 (by omega) a7 a8 a9
  refine ⟨fun z hQ => an (by cases hf : f with
    | none => rfl
    | some x => rw [hf] at z; simp at z) hQ, fun v hv hQ => ?_⟩
  cases hf : f with
  | none => rw [hf] at hv; simp at hv
  | some x =>
    rw [hf] at hv
    have ev : bV (!x) = v := by simpa using hv
    subst ev
    refine as (bV x) (by rw [hf]; rfl) (fun σ1 n1 p1 hn1 => ?_)
    obtain ⟨f1, g1, t1, u1⟩ := p1
    obtain ⟨n1, rfl⟩ : ∃ k, n1 = k + 1 := ⟨n1 - 1, by omega⟩
    obtain ⟨q1, q2⟩ := ldC_fr (ldC_r a1) f1 0 (9, 0) rfl
    simp only [Nat.add_zero] at q1 q2
    have ch : (1 ≤ gi σ1 K 6) = True := by rw [g1, show (1 : Int32) = zI 1 from rfl, zI_le (by omega) (by omega) (by omega) (by omega)]; exact eq_true (by omega)
    have e1 : gi σ1 K 6 - 1 = zI (hh : Int) := by rw [g1, show (1 : Int32) = zI 1 from rfl, zI_sub]; congr 1; omega
    have k0 : (ck (zI (hh : Int)) 64 = true) = True := zI_ckT (by omega) (by omega) (by omega)
    have z0 : (zI (hh : Int)).toNatClampNeg = hh := by rw [zI_clamp (by omega) (by omega)]; omega
    rw [w_step (o := 9) (v := 0) ((f1 _ _ (by omega)).trans a3) a4 a5 (by omega) q1 q2 (by omega) (by omega), if_neg (by omega), if_neg (by omega)]
    simp only [ch, if_true, e1, k0, z0, t1]
    have el : (base + (c base ++ [(9, 0)]).length : Nat) = base + (c base).length + 1 := by simp only [List.length_append, List.length_cons, List.length_nil]; omega
    have := hQ (sl σ1 (K + 6) hh (1 - zL (bV x))) n1 ⟨fun k j hk => by rw [gi_slx]; exact f1 k j hk, by rw [gi_slx]; exact g1, by rw [gl_slx, if_pos ⟨rfl, rfl⟩, show (1 : Int64) = zL 1 from rfl, zL_sub]; cases x <;> rfl, fun i hi => by rw [gl_slx, if_neg (by omega)]; exact u1 i hi⟩ (by rw [el]; omega)
    rw [el] at this
    exact this
theorem w_jmp {N K : Nat} {e : Nat → Int} {a b : BT} {fa fb : Option Bool} {m : Nat} {o : Int} (ho : o = 10 ∨ o = 11) (m1 : 1 ≤ m) (ha : Wk N K e a.1 (fa.map bV) m) (hb : Wk N K e b.1 (fb.map bV) m) : Wk N K e (jmpB o a b) ((fa.bind fun x => if x = decide (o = 10) then some x else fb).map bV) m := by
  intro base to hh n sz σ Q a1 a2 a3 a4 a5 a6 a7 a8 a9
  have al := jmp_len o a b base
  rw [al] at a6
  have hj : jmpB o a b base = a.1 base ++ [(o, ((base + (a.1 base).length + 1 + (b.1 (base + (a.1 base).length + 1)).length : Nat) : Int))] ++ b.1 (base + (a.1 base).length + 1) := rfl
  rw [hj] at a1
  have la : ldC K base (a.1 base) σ := ldC_l (ldC_l a1)
  have lo : ldC K (base + (a.1 base).length) [(o, ((base + (a.1 base).length + 1 + (b.1 (base + (a.1 base).length + 1)).length : Nat) : Int))] σ := ldC_r (ldC_l a1)
  have lb : ldC K (base + (a.1 base).length + 1) (b.1 (base + (a.1 base).length + 1)) σ := by
    have := ldC_r a1
    rwa [List.length_append, List.length_cons, List.length_nil, ← Nat.add_assoc] at this
  obtain ⟨an, as⟩ := ha base to hh n sz σ Q la a2 a3 a4 a5 (by omega) a7 a8 a9
  rw [al]
  generalize hA : (a.1 base).length = A at *
  generalize hB : (b.1 (base + A + 1)).length = B at *
  -- behind the first
  have rest : ∀ x, fa = some x → ((if x = decide (o = 10) then (∀ σ' n', pushed K hh (bV x) σ σ' → to < n' + (base + (A + 1 + B)) → Ho (fX5_work_l11 N K n' (zI to) (zI ((base + (A + 1 + B) : Nat) : Int)) σ') Q) else (∀ σ' n', frK K σ σ' → gi σ' K 6 = zI hh → (∀ i, i < hh → gl σ' (K + 6) i = gl σ (K + 6) i) → to < n' + (base + A + 1) → Ho (fX5_work_l11 N K n' (zI to) (zI ((base + A + 1 : Nat) : Int)) σ') Q))) → Ho (fX5_work_l11 N K n (zI to) (zI base) σ) Q := by
    intro x hx hQ
    refine as (bV x) (by rw [hx]; rfl) (fun σ1 n1 p1 hn1 => ?_)
    obtain ⟨f1, g1, t1, u1⟩ := p1
    obtain ⟨n1, rfl⟩ : ∃ k, n1 = k + 1 := ⟨n1 - 1, by omega⟩
    obtain ⟨q1, q2⟩ := ldC_fr lo f1 0 _ rfl
    simp only [Nat.add_zero] at q1 q2
    have ch : (1 ≤ gi σ1 K 6) = True := by rw [g1, show (1 : Int32) = zI 1 from rfl, zI_le (by omega) (by omega) (by omega) (by omega)]; exact eq_true (by omega)
    have e1 : gi σ1 K 6 - 1 = zI (hh : Int) := by rw [g1, show (1 : Int32) = zI 1 from rfl, zI_sub]; congr 1; omega
    have k0 : (ck (zI (hh : Int)) 64 = true) = True := zI_ckT (by omega) (by omega) (by omega)
    have z0 : (zI (hh : Int)).toNatClampNeg = hh := by rw [zI_clamp (by omega) (by omega)]; omega
    have k1 : (ck (zI ((base + A : Nat) : Int)) 400 = true) = True := zI_ckT (by omega) (by omega) (by omega)
    have z1 : (zI ((base + A : Nat) : Int)).toNatClampNeg = base + A := by rw [zI_clamp (by omega) (by omega)]; omega
    have lz : (lg_cmp (zL (bV x)) 0 = 0) = (x = false) := by
      rw [show (0 : Int64) = zL 0 from rfl]
      refine propext ((lg_cmp_eq _ _).trans ?_)
      cases x <;> decide
    have stepE : fX5_work_l11 N K (n1 + 1) (zI to) (zI ((base + A : Nat) : Int)) σ1 = fX5_work_b142 N K (fX5_work_l11 N K n1) (zI to) (zI ((base + A : Nat) : Int)) (zI o) σ1 := by
      rw [w_step (o := o) (v := ((base + A + 1 + B : Nat) : Int)) ((f1 _ _ (by omega)).trans a3) a4 a5 (by omega) q1 q2 (by omega) (by omega), if_neg (by omega), if_neg (by omega)]
      simp only [ch, if_true]
      rw [if_neg (by omega)]
      rcases ho with r | r
      · rw [if_pos r]
      · rw [if_neg (by omega), if_pos r]
    rw [stepE]
    unfold fX5_work_b142 fX5_work_b163
    simp only [e1, k0, z0, if_true, t1, lz]
    have b175 : ∀ u1 : Bool, u1 = decide (o = 10) → Ho (fX5_work_b175 N K (fX5_work_l11 N K n1) (zI to) (zI ((base + A : Nat) : Int)) (bI x) (bI u1) σ1) Q := by
      intro u1' hu
      unfold fX5_work_b175 fX5_work_b218
      have ce : (bI x = bI u1') = (x = u1') := by cases x <;> cases u1' <;> simp [bI] <;> decide
      simp only [ce]
      by_cases q : x = u1'
      · rw [if_pos q]
        rw [if_pos (by rw [q]; exact hu)] at hQ
        simp only [k1, z1, if_true, q2]
        have mx : fJ9_max_7cf53 (zI ((base + A : Nat) : Int)) (zI ((base + A + 1 + B : Nat) : Int) - 1) = some (zI ((base + A + B : Nat) : Int)) := by
          rw [show (1 : Int32) = zI 1 from rfl, zI_sub, e_max (by omega) (by omega) (by omega) (by omega)]
          congr 2
          omega
        rw [mx, Option.bind_some, show zI ((base + A + B : Nat) : Int) + 1 = zI ((base + (A + 1 + B) : Nat) : Int) by rw [show (1 : Int32) = zI 1 from rfl, zI_add]; congr 1; omega]
        exact hQ σ1 n1 ⟨f1, g1, t1, u1⟩ (by omega)
      · rw [if_neg q]
        rw [if_neg (fun z => q (z.trans hu.symm))] at hQ
        simp only [nmM, e1]
        rw [show zI ((base + A : Nat) : Int) + 1 = zI ((base + A + 1 : Nat) : Int) by rw [show (1 : Int32) = zI 1 from rfl, zI_add]; rfl]
        exact hQ _ n1 (fun k j hk => by rw [gi_si, if_neg hk]; exact f1 k j hk) (by rw [gi_si, if_pos ⟨rfl, rfl⟩]) (fun i hi => u1 i hi) (by omega)
    have oe : (zI o = 10) = (o = 10) := by rw [show (10 : Int32) = zI 10 from rfl, zI_eq (by omega) (by omega) (by omega) (by omega)]
    simp only [oe]
    cases x with
    | false =>
      rw [if_pos rfl]
      by_cases q : o = 10
      · rw [if_pos q]; exact b175 true (by rw [decide_eq_true q])
      · rw [if_neg q]; exact b175 false (by rw [decide_eq_false q])
    | true =>
      rw [if_neg (by decide)]
      by_cases q : o = 10
      · rw [if_pos q]; exact b175 true (by rw [decide_eq_true q])
      · rw [if_neg q]; exact b175 false (by rw [decide_eq_false q])
  have elen : base + A + 1 + B = base + (A + 1 + B) := by omega
  refine ⟨fun z hQ => ?_, fun v hv hQ => ?_⟩
  · cases hfa : fa with
    | none => exact an (by rw [hfa]; rfl) hQ
    | some x =>
      refine rest x hfa ?_
      rw [hfa] at z
      simp only [Option.bind_some] at z
      by_cases q : x = decide (o = 10)
      · rw [if_pos q] at z; simp at z
      · rw [if_neg q] at z ⊢
        intro σ' n' f' g' u' hn'
        obtain ⟨bn, bs⟩ := hb (base + A + 1) to hh n' sz σ' Q (ldC_fr lb f') (envK_fr a2 f') ((f' _ _ (by omega)).trans a3) a4 a5 (by omega) g' a8 (by omega)
        exact bn z (fun σ2 f2 => hQ σ2 (frK_trans f' f2))
  · cases hfa : fa with
    | none => rw [hfa] at hv; simp at hv
    | some x =>
      refine rest x hfa ?_
      rw [hfa] at hv
      simp only [Option.bind_some] at hv
      by_cases q : x = decide (o = 10)
      · rw [if_pos q] at hv ⊢
        have ev : bV x = v := by simpa using hv
        rw [ev]
        exact hQ
      · rw [if_neg q] at hv ⊢
        intro σ' n' f' g' u' hn'
        obtain ⟨bn, bs⟩ := hb (base + A + 1) to hh n' sz σ' Q (ldC_fr lb f') (envK_fr a2 f') ((f' _ _ (by omega)).trans a3) a4 a5 (by omega) g' a8 (by omega)
        refine bs v hv (fun σ2 n2 p2 hn2 => ?_)
        obtain ⟨f2, g2, t2, u2⟩ := p2
        rw [hB] at hn2 ⊢
        rw [elen] at hn2 ⊢
        exact hQ σ2 n2 ⟨frK_trans f' f2, g2, t2, fun i hi => (u2 i hi).trans (u' i hi)⟩ hn2
