/-! ranges; what does not depend on guesses, offers, beats, cells, law -/
def sameK (κ κ' : Nat → Int32) : Prop := ∀ j : Nat, (j < 204 ∨ (238 ≤ j ∧ j < 268) ∨ (300 ≤ j ∧ j ≤ 302) ∨ j = 308 ∨ j = 310) → κ' j = κ j
def validI (κ : Nat → Int32) (it : Bool × Nat) : Prop := (it.1 = false ∧ (it.2 : Int) < kI κ 300) ∨ (it.1 = true ∧ (it.2 : Int) < kI κ 301)
theorem newsK_mem {κ : Nat → Int32} {e : Bool} {n : Nat} {it : Bool × Nat} (h : it ∈ newsK κ e n) : it.1 = e ∧ it.2 < n ∧ knownB κ it = false := by
  unfold newsK at h
  obtain ⟨k, hk, rfl⟩ := List.mem_map.mp h
  have := List.mem_filter.mp hk
  refine ⟨rfl, List.mem_range.mp this.1, ?_⟩
  simpa using this.2
theorem newsL_mem {κ : Nat → Int32} {it : Bool × Nat} (h : it ∈ newsL κ) : validI κ it ∧ knownB κ it = false := by
  unfold newsL at h
  rcases List.mem_append.mp h with h | h
  · obtain ⟨a, b, c⟩ := newsK_mem h
    exact ⟨Or.inl ⟨a, by omega⟩, c⟩
  · obtain ⟨a, b, c⟩ := newsK_mem h
    exact ⟨Or.inr ⟨a, by omega⟩, c⟩
theorem newsK_len (κ : Nat → Int32) (e : Bool) (n : Nat) : (newsK κ e n).length ≤ n := by
  unfold newsK
  rw [List.length_map]
  exact Nat.le_trans (List.length_filter_le _ _) (by rw [List.length_range]; exact Nat.le_refl _)
theorem newsL_len {κ : Nat → Int32} (h1 : KH κ) (h2 : KE κ) : (newsL κ).length ≤ 36 := by
  unfold newsL
  rw [List.length_append]
  have a := newsK_len κ false (kI κ 300).toNat
  have b := newsK_len κ true (kI κ 301).toNat
  have := h1.1
  have := h2.1
  omega
theorem it_rng {κ : Nat → Int32} {it : Bool × Nat} (h1 : KH κ) (h2 : KE κ) (h : validI κ it) : (0 ≤ itF κ it 0 ∧ itF κ it 0 ≤ 1) ∧ (0 ≤ itF κ it 1 ∧ itF κ it 1 ≤ 23) ∧ (0 ≤ itF κ it 2 ∧ itF κ it 2 ≤ 99) ∧ (it.1 = false → itF κ it 2 ≤ 79) := by
  obtain ⟨e, k⟩ := it
  unfold itF
  rcases h with ⟨a, b⟩ | ⟨a, b⟩
  · have := h1.2 k (by omega) b
    simp only at a b
    subst a
    simp only [Int.add_zero]
    refine ⟨this.1, this.2.1, ⟨this.2.2.1, ?_⟩, fun _ => this.2.2.2⟩
    have := this.2.2.2
    simp only [Bool.false_eq_true, if_false]
    omega
  · have := h2.2 k (by omega) b
    simp only at a b
    subst a
    simp only [Int.add_zero]
    exact ⟨this.1, this.2.1, this.2.2, fun h => by cases h⟩
theorem velR_rng {κ : Nat → Int32} {b w bell : Int} (n : Nat) (h : ∀ l : Int, 0 ≤ l → l < n → -3 ≤ legV κ b l w ∧ legV κ b l w ≤ 3) : -3 ≤ velR κ b w bell n ∧ velR κ b w bell n ≤ 3 := by
  induction n with
  | zero => simp [velR]
  | succ n ih =>
    rw [velR]
    by_cases q : legB κ b n ≤ bell
    · rw [if_pos q]; exact h n (by omega) (by omega)
    · rw [if_neg q]; exact ih (fun l h1 h2 => h l h1 (by omega))
theorem velS_rng {κ : Nat → Int32} {b w bell : Int} (hk : KB κ) (h0 : 0 ≤ b) (h1 : b ≤ 1) (hw : w = 0 ∨ w = 1) : -3 ≤ velS κ b w bell ∧ velS κ b w bell ≤ 3 := by
  obtain ⟨_, _, _, hn, hl, _⟩ := hk b h0 h1
  apply velR_rng
  intro l a c
  have := hl l a (by omega)
  rcases hw with rfl | rfl
  · exact this.2.1
  · exact this.2.2
theorem posN_rng {κ : Nat → Int32} {b w : Int} (hk : KB κ) (h0 : 0 ≤ b) (h1 : b ≤ 1) (hw : w = 0 ∨ w = 1) (n : Nat) : -(3 * n) ≤ posN κ b w n ∧ posN κ b w n ≤ 31 + 3 * n := by
  induction n with
  | zero =>
    obtain ⟨hx, hy, _⟩ := hk b h0 h1
    rw [posN]
    rcases hw with rfl | rfl
    · rw [Int.add_zero]; omega
    · omega
  | succ n ih =>
    have := velS_rng (bell := n) hk h0 h1 hw
    rw [posN]
    omega
theorem pos_rng {κ : Nat → Int32} {b bell w : Int} (hk : KB κ) (h0 : 0 ≤ b) (h1 : b ≤ 1) (hw : w = 0 ∨ w = 1) (hb : bell ≤ 23) : -69 ≤ pos κ b bell w ∧ pos κ b bell w ≤ 100 := by
  have := posN_rng hk h0 h1 hw bell.toNat
  unfold pos
  omega
theorem spd_rng {κ : Nat → Int32} {b bell : Int} (hk : KB κ) (h0 : 0 ≤ b) (h1 : b ≤ 1) : 0 ≤ spd κ b bell ∧ spd κ b bell ≤ 3 := by
  have a := velS_rng (bell := bell) hk h0 h1 (w := 0) (Or.inl rfl)
  have b := velS_rng (bell := bell) hk h0 h1 (w := 1) (Or.inr rfl)
  unfold spd szS
  omega
section CG
variable {κ κ' : Nat → Int32} (h : sameK κ κ')
theorem kI_s (h : sameK κ κ') {j : Int} (c : (0 ≤ j ∧ j < 204) ∨ (238 ≤ j ∧ j < 268) ∨ (300 ≤ j ∧ j ≤ 302) ∨ j = 308 ∨ j = 310) : kI κ' j = kI κ j := by
  unfold kI
  rw [h j.toNat (by omega)]
theorem legN_s (h : sameK κ κ') {b : Int} (h0 : 0 ≤ b) (h1 : b ≤ 1) : legN κ' b = legN κ b := kI_s h (by omega)
theorem legB_s (h : sameK κ κ') {b l : Int} (h0 : 0 ≤ b) (h1 : b ≤ 1) (h2 : 0 ≤ l) (h3 : l ≤ 6) : legB κ' b l = legB κ b l := kI_s h (by omega)
theorem legV_s (h : sameK κ κ') {b l w : Int} (h0 : 0 ≤ b) (h1 : b ≤ 1) (h2 : 0 ≤ l) (h3 : l ≤ 6) (hw : w = 0 ∨ w = 1) : legV κ' b l w = legV κ b l w := kI_s h (by omega)
theorem velR_s (h : sameK κ κ') {b w bell : Int} (h0 : 0 ≤ b) (h1 : b ≤ 1) (hw : w = 0 ∨ w = 1) (n : Nat) (hn : n ≤ 6) : velR κ' b w bell n = velR κ b w bell n := by
  induction n with
  | zero => rfl
  | succ n ih => rw [velR, velR, ih (by omega), legB_s h h0 h1 (by omega) (by omega), legV_s h h0 h1 (by omega) (by omega) hw]
theorem velS_s (h : sameK κ κ') (hk : KB κ) {b w bell : Int} (h0 : 0 ≤ b) (h1 : b ≤ 1) (hw : w = 0 ∨ w = 1) : velS κ' b w bell = velS κ b w bell := by
  have := (hk b h0 h1).2.2.2.1
  unfold velS
  rw [legN_s h h0 h1, velR_s h h0 h1 hw _ (by omega)]
theorem posN_s (h : sameK κ κ') (hk : KB κ) {b w : Int} (h0 : 0 ≤ b) (h1 : b ≤ 1) (hw : w = 0 ∨ w = 1) (n : Nat) : posN κ' b w n = posN κ b w n := by
  induction n with
  | zero => exact kI_s h (by omega)
  | succ n ih => rw [posN, posN, ih, velS_s h hk h0 h1 hw]
theorem pos_s (h : sameK κ κ') (hk : KB κ) {b bell w : Int} (h0 : 0 ≤ b) (h1 : b ≤ 1) (hw : w = 0 ∨ w = 1) : pos κ' b bell w = pos κ b bell w := posN_s h hk h0 h1 hw _
theorem spd_s (h : sameK κ κ') (hk : KB κ) {b bell : Int} (h0 : 0 ≤ b) (h1 : b ≤ 1) : spd κ' b bell = spd κ b bell := by
  unfold spd
  rw [velS_s h hk h0 h1 (Or.inl rfl), velS_s h hk h0 h1 (Or.inr rfl)]
theorem depS_s (h : sameK κ κ') {b : Int} (h0 : 0 ≤ b) (h1 : b ≤ 1) : depS κ' b = depS κ b := kI_s h (by omega)
theorem slowS_s (h : sameK κ κ') (hk : KT κ) {d : Int} (h0 : 0 ≤ d) (h1 : d ≤ 9) : slowS κ' d = slowS κ d := by
  have := hk.2.2.2.2.2.2
  unfold slowS
  rw [kI_s h (j := 310) (by omega), kI_s h (by omega)]
theorem bendS_s (h : sameK κ κ') (hk : KT κ) {d : Int} (h0 : 0 ≤ d) (h1 : d ≤ 9) : bendS κ' d = bendS κ d := by
  unfold bendS
  rw [slowS_s h hk (d := max (d - 1) 0) (by omega) (by omega), slowS_s h hk (d := min (d + 1) 9) (by omega) (by omega)]
theorem rayS_s (h : sameK κ κ') (hk : KT κ) {d s : Int} (h0 : 0 ≤ d ∧ d ≤ 9) (h1 : -2 ≤ s ∧ s ≤ 2) (n : Nat) : rayS κ' d s n = rayS κ d s n := by
  induction n with
  | zero => rfl
  | succ n ih =>
    have := rayS_rng (κ := κ) h0 h1 n
    rw [rayS, rayS, ih, bendS_s h hk this.1.1 this.1.2]
theorem reachB_s (h : sameK κ κ') (hk : KT κ) {d t r : Int} (h0 : 0 ≤ d ∧ d ≤ 9) : reachB κ' d t r = reachB κ d t r := by
  unfold reachB
  rw [rayS_s h hk h0 (by omega), rayS_s h hk h0 (by omega), rayS_s h hk h0 (by omega), rayS_s h hk h0 (by omega), rayS_s h hk h0 (by omega)]
theorem itF_s (h : sameK κ κ') (h1 : KH κ) (h2 : KE κ) {it : Bool × Nat} {f : Int} (hv : validI κ it) (hf : 0 ≤ f ∧ f ≤ 2) : itF κ' it f = itF κ it f := by
  obtain ⟨e, k⟩ := it
  have := h1.1
  have := h2.1
  unfold itF
  rcases hv with ⟨a, b⟩ | ⟨a, b⟩ <;> simp only at a b <;> subst a <;> exact kI_s h (by simp only [Bool.false_eq_true, if_false, if_true]; omega)
theorem wayB_s (h : sameK κ κ') (h1 : KH κ) (h2 : KE κ) {it : Bool × Nat} (hv : validI κ it) (x y : Int) : wayB κ' it x y = wayB κ it x y := by
  unfold wayB
  rw [itF_s h h1 h2 hv (by omega), kI_s h (j := 45) (by omega), kI_s h (j := 44) (by omega)]
theorem explB_s (h : sameK κ κ') (hk : KB κ) (h1 : KH κ) (h2 : KE κ) {it : Bool × Nat} (hv : validI κ it) (x y : Int) : explB κ' it x y = explB κ it x y := by
  have r := it_rng h1 h2 hv
  unfold explB
  rw [itF_s h h1 h2 hv (by omega), itF_s h h1 h2 hv (by omega), pos_s h hk r.1.1 r.1.2 (Or.inl rfl), pos_s h hk r.1.1 r.1.2 (Or.inr rfl), wayB_s h h1 h2 hv]
theorem knownP_s (h : sameK κ κ') (hk : KB κ) (h1 : KH κ) (h2 : KE κ) (h3 : KR κ) (h4 : KS κ) {it : Bool × Nat} (hv : validI κ it) : knownP κ' it ↔ knownP κ it := by
  have e1 : kI κ' 302 = kI κ 302 := kI_s h (by omega)
  have e2 : kI κ' 308 = kI κ 308 := kI_s h (by omega)
  have w := h3.1
  have s := h4.1
  unfold knownP
  rw [e1, e2]
  refine or_congr ?_ ?_
  · refine exists_congr fun a => and_congr_right fun h5 => and_congr_right fun h6 => ?_
    rw [kI_s h (j := 188 + 2 * a) (by omega), kI_s h (j := 188 + 2 * a + 1) (by omega), explB_s h hk h1 h2 hv]
  · refine exists_congr fun a => and_congr_right fun h5 => and_congr_right fun h6 => ?_
    rw [itF_s h h1 h2 hv (by omega), kI_s h (j := 238 + 5 * a) (by omega), kI_s h (j := 238 + 5 * a + 1) (by omega), kI_s h (j := 238 + 5 * a + 2) (by omega), kI_s h (j := 238 + 5 * a + 3) (by omega), kI_s h (j := 238 + 5 * a + 4) (by omega)]
    refine and_congr_right fun _ => exists_congr fun x => exists_congr fun y => ?_
    rw [explB_s h hk h1 h2 hv]
theorem knownB_s (h : sameK κ κ') (hk : KB κ) (h1 : KH κ) (h2 : KE κ) (h3 : KR κ) (h4 : KS κ) {it : Bool × Nat} (hv : validI κ it) : knownB κ' it = knownB κ it := by
  unfold knownB
  rw [propext (knownP_s h hk h1 h2 h3 h4 hv)]
theorem newsL_s (h : sameK κ κ') (hk : KB κ) (h1 : KH κ) (h2 : KE κ) (h3 : KR κ) (h4 : KS κ) : newsL κ' = newsL κ := by
  have e1 : kI κ' 300 = kI κ 300 := kI_s h (by omega)
  have e2 : kI κ' 301 = kI κ 301 := kI_s h (by omega)
  unfold newsL newsK
  rw [e1, e2]
  congr 2
  · apply List.filter_congr
    intro k hkk
    have := List.mem_range.mp hkk
    rw [knownB_s h hk h1 h2 h3 h4 (Or.inl ⟨rfl, by simp only; omega⟩)]
  · apply List.filter_congr
    intro k hkk
    have := List.mem_range.mp hkk
    rw [knownB_s h hk h1 h2 h3 h4 (Or.inr ⟨rfl, by simp only; omega⟩)]
theorem fitB_s (h : sameK κ κ') (hk : KB κ) (ht : KT κ) (h1 : KH κ) (h2 : KE κ) {it : Bool × Nat} (hv : validI κ it) (bell x y : Int) : fitB κ' it bell x y = fitB κ it bell x y := by
  have r := it_rng h1 h2 hv
  have t := ht.2.2.2.1
  unfold fitB
  rw [itF_s h h1 h2 hv (by omega), pos_s h hk r.1.1 r.1.2 (Or.inl rfl), pos_s h hk r.1.1 r.1.2 (Or.inr rfl), wayB_s h h1 h2 hv, depS_s h r.1.1 r.1.2, kI_s h (j := 47) (by omega), reachB_s h ht t]
theorem okB_s (h : sameK κ κ') (hk : KB κ) (ht : KT κ) (h1 : KH κ) (h2 : KE κ) {it : Bool × Nat} (hv : validI κ it) (s x y u v : Int) : okB κ' it s x y u v = okB κ it s x y u v := by
  unfold okB
  rw [itF_s h h1 h2 hv (by omega), fitB_s h hk ht h1 h2 hv]
theorem missOf_s (h : sameK κ κ') (hw : KW κ) (b s x y u v : Int) : missOf κ' b s x y u v = missOf κ b s x y u v := by
  obtain ⟨hk, ht, h1, h2, h3, h4, _⟩ := hw
  unfold missOf
  rw [newsL_s h hk h1 h2 h3 h4]
  apply List.countP_congr
  intro it hit
  have hv := (newsL_mem hit).1
  rw [itF_s h h1 h2 hv (by omega), okB_s h hk ht h1 h2 hv]
theorem fitR_s (h : sameK κ κ') (hw : KW κ) : fitR κ' = fitR κ := by
  funext r
  unfold fitR runB
  rw [kI_s h (j := 46) (by omega)]
  simp only [missOf_s h hw]
theorem missR_s (h : sameK κ κ') (hw : KW κ) : missR κ' = missR κ := by
  funext r
  unfold missR missBest
  rw [kI_s h (j := 46) (by omega)]
  simp only [missOf_s h hw]
theorem freshL_s (h : sameK κ κ') (hw : KW κ) (b : Int) : freshL κ' b (newsL κ') = freshL κ b (newsL κ) := by
  obtain ⟨hk, ht, h1, h2, h3, h4, _⟩ := hw
  rw [newsL_s h hk h1 h2 h3 h4]
  unfold freshL
  apply List.filter_congr
  intro it hit
  rw [itF_s h h1 h2 (newsL_mem hit).1 (by omega)]
theorem sorts_s (h : sameK κ κ') (hw : KW κ) {m : Nat → Nat → Int32} (hs : sorts m κ) : sorts m κ' := by
  have hw0 := hw
  obtain ⟨hk, ht, h1, h2, h3, h4, _⟩ := hw
  obtain ⟨a, b, c⟩ := hs
  refine ⟨fun k hkk => ?_, fun k hkk => ?_, fun x hx => ?_⟩
  · rw [kI_s h (by omega)] at hkk
    rw [a k hkk, knownB_s h hk h1 h2 h3 h4 (Or.inl ⟨rfl, hkk⟩)]
  · rw [kI_s h (by omega)] at hkk
    rw [b k hkk, knownB_s h hk h1 h2 h3 h4 (Or.inr ⟨rfl, hkk⟩)]
  · rw [freshL_s h hw0]
    refine ⟨(c x hx).1, fun i it hit => ?_⟩
    have hm : it ∈ newsL κ := (List.mem_filter.mp (List.mem_of_getElem? hit)).1
    have hv := (newsL_mem hm).1
    rw [itF_s h h1 h2 hv (by omega), itF_s h h1 h2 hv (by omega)]
    exact (c x hx).2 i it hit
theorem tunes_s (h : sameK κ κ') (hw : KW κ) {m : Nat → Nat → Int32} (hs : tunes m κ) : tunes m κ' := by
  obtain ⟨hk, ht, _⟩ := hw
  intro b hb
  have e : (fun r => reachB κ' (kI κ' 47) (depS κ' b) r) = (fun r => reachB κ (kI κ 47) (depS κ b) r) := by
    funext r
    rw [kI_s h (j := 47) (by omega), depS_s h (by omega) (by omega), reachB_s h ht ht.2.2.2.1]
  rw [e]
  exact hs b hb
theorem CC_s (h : sameK κ κ') (hw : KW κ) {m : Nat → Nat → Int32} (hs : CC m κ) : CC m κ' := by
  obtain ⟨a, b, c, d, e, f⟩ := hs
  refine ⟨a, b, fun z => sorts_s h hw (c z), fun z => tunes_s h hw (d z), fun z => ?_, fun z => ?_⟩
  · unfold plots
    rw [fitR_s h hw]
    exact e z
  · unfold reckons
    rw [missR_s h hw]
    exact f z
end CG
