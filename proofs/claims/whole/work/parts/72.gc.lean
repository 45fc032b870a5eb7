/-! the class's list is all answers, the least first -/
theorem range_mul (a b : Nat) : List.range (a * b) = (List.range a).flatMap fun i => (List.range b).map (i * b + ·) := by
  induction a with
  | zero => simp
  | succ a ih =>
    rw [Nat.succ_mul, List.range_add, ih, List.range_succ, List.flatMap_append]
    simp
theorem flat_filter {α β : Type} (p : α → Bool) (F : α → List β) : ∀ l : List α, (l.filter p).flatMap F = l.flatMap fun m => if p m then F m else []
  | [] => rfl
  | x :: l => by
    rw [List.flatMap_cons, ← flat_filter p F l, List.filter_cons]
    by_cases c : p x = true
    · simp [c]
    · simp [c]
theorem flat_first {β : Type} (g : Nat → List β) (n : Nat) (h : ∀ i, 0 < i → i < n + 1 → g i = []) : (List.range (n + 1)).flatMap g = g 0 := by
  induction n with
  | zero => simp
  | succ n ih =>
    rw [List.range_succ, List.flatMap_append, ih (fun i h1 h2 => h i h1 (by omega))]
    simp [h (n + 1) (by omega) (by omega)]
theorem flat_congr {α β : Type} {f g : α → List β} : ∀ {l : List α}, (∀ x, x ∈ l → f x = g x) → l.flatMap f = l.flatMap g
  | [], _ => rfl
  | x :: l, h => by
    rw [List.flatMap_cons, List.flatMap_cons, h x (by simp), flat_congr (fun y hy => h y (by simp [hy]))]
def m5 (s : Sh) (m : Nat) : Nat := m * 2 ^ (5 - sW s)
def gdB (s : Sh) (lk : Nat → Nat) (m : Nat) : Bool := (List.range 5).all fun c => decide (bitN (m5 s m) (4 - c) ≤ lk c)
def gd (s : Sh) : Nat → (Nat → Nat) → Nat → Bool
  | 0, lk, _ => (List.range 5).all fun c => lk c == 0
  | j + 1, lk, y => (bc (m5 s (y / 2 ^ (sW s * j))) 5 == sR s (sH s - (j + 1)) && gdB s lk (y / 2 ^ (sW s * j))) && gd s j (lkN lk (m5 s (y / 2 ^ (sW s * j)))) (y % 2 ^ (sW s * j))
def Al (s : Sh) (j : Nat) (lk : Nat → Nat) : List Nat := (List.range (2 ^ (sW s * j))).filter (gd s j lk)
theorem Al_succ (s : Sh) (j : Nat) (lk : Nat → Nat) : Al s (j + 1) lk = (List.range (2 ^ sW s)).flatMap fun m => if bc (m5 s m) 5 == sR s (sH s - (j + 1)) && gdB s lk m then (Al s j (lkN lk (m5 s m))).map (m * 2 ^ (sW s * j) + ·) else [] := by
  have hp : 2 ^ (sW s * (j + 1)) = 2 ^ sW s * 2 ^ (sW s * j) := by rw [Nat.mul_succ, Nat.pow_add, Nat.mul_comm]
  have pp := Nat.two_pow_pos (sW s * j)
  unfold Al
  rw [hp, range_mul, List.filter_flatMap]
  refine flat_congr fun m _ => ?_
  rw [List.filter_map]
  have e : ∀ y, y ∈ List.range (2 ^ (sW s * j)) → ((gd s (j + 1) lk) ∘ (m * 2 ^ (sW s * j) + ·)) y = ((bc (m5 s m) 5 == sR s (sH s - (j + 1)) && gdB s lk m) && gd s j (lkN lk (m5 s m)) y) := by
    intro y hy
    rw [List.mem_range] at hy
    show gd s (j + 1) lk (m * 2 ^ (sW s * j) + y) = _
    have d1 : (m * 2 ^ (sW s * j) + y) / 2 ^ (sW s * j) = m := by
      rw [Nat.mul_comm, Nat.mul_add_div pp, Nat.div_eq_of_lt hy]; omega
    have d2 : (m * 2 ^ (sW s * j) + y) % 2 ^ (sW s * j) = y := by
      rw [Nat.mul_comm, Nat.mul_add_mod, Nat.mod_eq_of_lt hy]
    rw [gd, d1, d2]
  rw [List.filter_congr e]
  by_cases c : (bc (m5 s m) 5 == sR s (sH s - (j + 1)) && gdB s lk m) = true
  · simp only [c, Bool.true_and, if_true]
  · have c' : (bc (m5 s m) 5 == sR s (sH s - (j + 1)) && gdB s lk m) = false := by simpa using c
    simp only [c', Bool.false_and]
    simp
theorem bitN_le (m k : Nat) : bitN m k ≤ 1 := by unfold bitN; split <;> omega
theorem Al_empty (s : Sh) : ∀ (j : Nat) (lk : Nat → Nat) (c : Nat), c < 5 → j < lk c → Al s j lk = [] := by
  have key : ∀ (j : Nat) (lk : Nat → Nat) (c : Nat), c < 5 → j < lk c → ∀ y, gd s j lk y = false := by
    intro j
    induction j with
    | zero =>
      intro lk c hc h y
      unfold gd
      rw [Bool.eq_false_iff]
      intro q
      rw [List.all_eq_true] at q
      have := q c (by simpa using hc)
      simp at this
      omega
    | succ j ih =>
      intro lk c hc h y
      unfold gd
      rw [ih _ c hc (by
        unfold lkN
        have := bitN_le (m5 s (y / 2 ^ (sW s * j))) (4 - c)
        omega)]
      simp
  intro j lk c hc h
  unfold Al
  rw [List.filter_eq_nil_iff]
  intro y _
  simp [key j lk c hc h y]
theorem m5_bit {s : Sh} (w : WS s) {m c : Nat} (hc : c < 5) : (m5 s m).testBit (4 - c) = (decide (c < sW s) && m.testBit (sW s - 1 - c)) := by
  have w5 := w.2.2.2.1
  unfold m5
  rw [Nat.testBit_mul_two_pow]
  by_cases h : c < sW s
  · have : 5 - sW s ≤ 4 - c := by omega
    simp only [h, this, decide_true, Bool.true_and]
    congr 1
    omega
  · have : ¬ 5 - sW s ≤ 4 - c := by omega
    simp [h, this]
theorem Gc_eq {s : Sh} (w : WS s) : ∀ (j made : Nat) (lk : Nat → Nat), j ≤ sH s → (∀ c, c < 5 → lk c ≤ j) → (∀ c, sW s ≤ c → c < 5 → lk c = 0) → 2 ^ (20 - sW s * (sH s - j)) ∣ made → Gc s j made lk = (Al s j lk).map (fun y => made + y * 2 ^ (20 - sW s * sH s)) := by
  have w5 := w.2.2.2.1
  have w1 := w.2.2.1
  have h4 := w.2.1
  intro j
  induction j with
  | zero =>
    intro made lk _ h1 _ _
    have : Al s 0 lk = [0] := by
      unfold Al
      have : gd s 0 lk 0 = true := by
        unfold gd
        rw [List.all_eq_true]
        intro c hc
        have := h1 c (by simpa using hc)
        simp; omega
      simp [List.range_succ, this]
    rw [this]
    simp [Gc]
  | succ j ih =>
    intro made lk hj h1 h2 hd
    have hw20 : sW s * sH s ≤ 20 := by have := w.n20; unfold sN at this; rw [Nat.mul_comm]; omega
    have hwr : sW s * (sH s - (j + 1)) + sW s = sW s * (sH s - j) := by
      rw [← Nat.mul_succ]; congr 1; omega
    have hwj : sW s * (sH s - j) + sW s * j = sW s * sH s := by
      rw [← Nat.mul_add]; congr 1; omega
    have hw15 : sW s * (sH s - (j + 1)) ≤ 15 := by
      have : sW s * (sH s - (j + 1)) ≤ 5 * 3 := Nat.mul_le_mul w5 (by omega)
      omega
    rw [Al_succ]
    show (rw5 (sR s (sH s - (j + 1)))).flatMap _ = _
    unfold rw5
    rw [flat_filter, show 32 = 2 ^ sW s * 2 ^ (5 - sW s) by rw [← Nat.pow_add, show sW s + (5 - sW s) = 5 by omega], range_mul, List.flatMap_assoc, List.map_flatMap]
    refine flat_congr fun m hm => ?_
    rw [List.mem_range] at hm
    rw [List.flatMap_map]
    obtain ⟨k2, hk2⟩ : ∃ k2, 2 ^ (5 - sW s) = k2 + 1 := ⟨2 ^ (5 - sW s) - 1, by have := Nat.two_pow_pos (5 - sW s); omega⟩
    have g0 : ∀ i, 0 < i → i < k2 + 1 → gok lk (j + 1) (m * (k2 + 1) + i) = false := by
      intro i hi hi2
      rw [Bool.eq_false_iff]
      intro q
      have q' := (gok_iff _ _ _).mp q
      have : ∃ p, i.testBit p = true := by
        refine Classical.byContradiction fun ne => ?_
        have : i = 0 := Nat.eq_of_testBit_eq fun p => by
          rw [Nat.zero_testBit]
          by_cases c : i.testBit p = true
          · exact absurd ⟨p, c⟩ ne
          · simpa using c
        omega
      obtain ⟨p, hp⟩ := this
      have pl : p < 5 - sW s := by
        refine Classical.byContradiction fun ne => ?_
        rw [Nat.testBit_lt_two_pow (Nat.lt_of_lt_of_le (hk2 ▸ hi2 : i < 2 ^ (5 - sW s)) (Nat.pow_le_pow_right (by decide) (by omega)))] at hp
        cases hp
      have tb : (m * (k2 + 1) + i).testBit p = true := by
        rw [← hk2, Nat.mul_comm, Nat.testBit_two_pow_mul_add _ (hk2 ▸ hi2), if_pos pl]
        exact hp
      have z := (q' (4 - p) (by omega)).2 (by rw [show 4 - (4 - p) = p by omega]; exact tb)
      exact z (h2 _ (by omega) (by omega))
    rw [hk2, flat_first _ k2 (fun i hi hi2 => by
      show (if _ then (if gok lk (j + 1) (m * (k2 + 1) + i) then _ else _) else _) = _
      rw [g0 i hi hi2]
      simp)]
    have em : m * (k2 + 1) + 0 = m5 s m := by unfold m5; rw [hk2]; omega
    show (if bc (m * (k2 + 1) + 0) 5 == _ then (if gok lk (j + 1) (m * (k2 + 1) + 0) then Gc s j (made ||| (m * (k2 + 1) + 0) * _) (lkN lk (m * (k2 + 1) + 0)) else []) else []) = _
    rw [em]
    by_cases cb : (bc (m5 s m) 5 == sR s (sH s - (j + 1))) = true
    · rw [if_pos cb]
      by_cases cg : gok lk (j + 1) (m5 s m) = true
      · have cg' := (gok_iff _ _ _).mp cg
        have cB : gdB s lk m = true := by
          unfold gdB
          rw [List.all_eq_true]
          intro c hc
          rw [List.mem_range] at hc
          have := (cg' c hc).2
          unfold bitN
          by_cases q : (m5 s m).testBit (4 - c) = true
          · have := this q
            simp [q]; omega
          · simp [q]
        rw [if_pos cg, if_pos (by rw [cb, cB]; rfl)]
        obtain ⟨M, hM⟩ := hd
        have e1 : m5 s m * 2 ^ (15 - sW s * (sH s - (j + 1))) = m * 2 ^ (20 - sW s * (sH s - j)) := by
          unfold m5
          rw [Nat.mul_assoc, ← Nat.pow_add]
          congr 2
          omega
        have e2 : 2 ^ (20 - sW s * (sH s - (j + 1))) = 2 ^ sW s * 2 ^ (20 - sW s * (sH s - j)) := by
          rw [← Nat.pow_add]; congr 1; omega
        have e3 : made ||| m5 s m * 2 ^ (15 - sW s * (sH s - (j + 1))) = made + m * 2 ^ (20 - sW s * (sH s - j)) := by
          rw [e1, hM, Nat.two_pow_add_eq_or_of_lt]
          rw [e2]
          exact Nat.mul_lt_mul_of_pos_right hm (Nat.two_pow_pos _)
        rw [e3, ih _ _ (by omega) ?_ ?_ ?_]
        · rw [List.map_map]
          refine List.map_congr_left fun y _ => ?_
          show made + m * 2 ^ (20 - sW s * (sH s - j)) + y * 2 ^ (20 - sW s * sH s) = made + (m * 2 ^ (sW s * j) + y) * 2 ^ (20 - sW s * sH s)
          rw [Nat.add_mul, Nat.mul_assoc, ← Nat.pow_add, show sW s * j + (20 - sW s * sH s) = 20 - sW s * (sH s - j) by omega]
          omega
        · intro c hc
          have a := h1 c hc
          have b := (cg' c hc).1
          unfold lkN bitN
          by_cases e : lk c = j + 1
          · rw [b e]; simp; omega
          · split <;> omega
        · intro c hc1 hc2
          have := h2 c hc1 hc2
          unfold lkN
          omega
        · rw [hM, e2, Nat.mul_comm (2 ^ sW s), Nat.mul_assoc]
          exact Nat.dvd_add (Nat.dvd_mul_right _ _) (Nat.dvd_mul_left _ _)
      · rw [if_neg cg]
        by_cases cB : gdB s lk m = true
        · rw [if_pos (by rw [cb, cB]; rfl)]
          have : ∃ c, c < 5 ∧ j < lkN lk (m5 s m) c := by
            refine Classical.byContradiction fun ne => cg ?_
            rw [gok_iff]
            intro c hc
            unfold gdB at cB
            rw [List.all_eq_true] at cB
            have b1 := cB c (by simpa using hc)
            rw [decide_eq_true_eq] at b1
            have b2 : ¬ j < lkN lk (m5 s m) c := fun q => ne ⟨c, hc, q⟩
            unfold lkN at b2
            unfold bitN at b1 b2
            by_cases q : (m5 s m).testBit (4 - c) = true
            · rw [if_pos q] at b1 b2
              exact ⟨fun _ => q, fun _ => by omega⟩
            · rw [if_neg q] at b1 b2
              exact ⟨fun e => by omega, fun e => absurd e q⟩
          obtain ⟨c, hc, hc2⟩ := this
          rw [Al_empty s j _ c hc hc2]
          rfl
        · rw [if_neg (by simp [cB])]
          rfl
    · rw [if_neg cb, if_neg (by simp [cb])]
      rfl
/-- rows of a part of a plane -/
def dg (s : Sh) (j y i : Nat) : Nat := y / 2 ^ (sW s * (j - 1 - i)) % 2 ^ sW s
theorem mod_div_mod (y A B W : Nat) (h : B + W ≤ A) : y % 2 ^ A / 2 ^ B % 2 ^ W = y / 2 ^ B % 2 ^ W := by
  refine Nat.eq_of_testBit_eq fun p => ?_
  rw [Nat.testBit_mod_two_pow, Nat.testBit_mod_two_pow, Nat.testBit_div_two_pow, Nat.testBit_div_two_pow, Nat.testBit_mod_two_pow]
  by_cases c : p < W
  · have : B + p < A := by omega
    simp [c, Nat.add_comm p B, this]
  · simp [c]
theorem gd_iff (s : Sh) : ∀ (j y : Nat) (lk : Nat → Nat), j ≤ sH s → y < 2 ^ (sW s * j) → (gd s j lk y = true ↔ (∀ i, i < j → bc (m5 s (dg s j y i)) 5 = sR s (sH s - j + i)) ∧ ∀ c, c < 5 → fb_sm (fun i => bitN (m5 s (dg s j y i)) (4 - c)) j = lk c) := by
  intro j
  induction j with
  | zero =>
    intro y lk _ _
    unfold gd
    rw [List.all_eq_true]
    simp only [List.mem_range, beq_iff_eq]
    refine ⟨fun h => ⟨fun i hi => by omega, fun c hc => (h c hc).symm⟩, fun h c hc => (h.2 c hc).symm⟩
  | succ j ih =>
    intro y lk hjh hy
    have pp := Nat.two_pow_pos (sW s * j)
    have hm : y / 2 ^ (sW s * j) < 2 ^ sW s := by
      rw [Nat.div_lt_iff_lt_mul pp, ← Nat.pow_add]
      rw [Nat.mul_succ, Nat.add_comm] at hy
      exact hy
    have d0 : dg s (j + 1) y 0 = y / 2 ^ (sW s * j) := by
      unfold dg
      rw [show j + 1 - 1 - 0 = j by omega, Nat.mod_eq_of_lt hm]
    have dS : ∀ i, i < j → dg s (j + 1) y (1 + i) = dg s j (y % 2 ^ (sW s * j)) i := by
      intro i hi
      unfold dg
      rw [show j + 1 - 1 - (1 + i) = j - 1 - i by omega, mod_div_mod]
      have : sW s * (j - 1 - i) + sW s = sW s * (j - 1 - i + 1) := (Nat.mul_succ _ _).symm
      rw [this]
      exact Nat.mul_le_mul_left _ (by omega)
    have ih' := ih (y % 2 ^ (sW s * j)) (lkN lk (m5 s (y / 2 ^ (sW s * j)))) (by omega) (Nat.mod_lt _ pp)
    have sm : ∀ c, fb_sm (fun i => bitN (m5 s (dg s (j + 1) y i)) (4 - c)) (j + 1) = bitN (m5 s (y / 2 ^ (sW s * j))) (4 - c) + fb_sm (fun i => bitN (m5 s (dg s j (y % 2 ^ (sW s * j)) i)) (4 - c)) j := by
      intro c
      rw [Nat.add_comm j 1, fb_sm_split]
      congr 1
      · show 0 + bitN (m5 s (dg s (1 + j) y 0)) (4 - c) = _
        rw [Nat.add_comm 1 j, d0, Nat.zero_add]
      · refine fb_sm_cong fun i hi => ?_
        rw [Nat.add_comm 1 j, dS i hi]
    unfold gd
    rw [Bool.and_eq_true, Bool.and_eq_true, ih', beq_iff_eq]
    unfold gdB
    rw [List.all_eq_true]
    simp only [List.mem_range, decide_eq_true_eq]
    constructor
    · intro ⟨⟨a, b⟩, c, d⟩
      refine ⟨fun i hi => ?_, fun k hk => ?_⟩
      · by_cases z : i = 0
        · subst z
          rw [d0]
          exact a
        · obtain ⟨i', rfl⟩ : ∃ i', i = 1 + i' := ⟨i - 1, by omega⟩
          rw [dS i' (by omega), c i' (by omega)]
          congr 1
          omega
      · have b' := b k hk
        have d' := d k hk
        rw [sm]
        unfold lkN at d'
        omega
    · intro ⟨a, b⟩
      refine ⟨⟨?_, fun k hk => ?_⟩, fun i hi => ?_, fun k hk => ?_⟩
      · have := a 0 (by omega)
        rw [d0] at this
        exact this
      · have := b k hk
        rw [sm] at this
        omega
      · have := a (1 + i) (by omega)
        rw [dS i hi] at this
        rw [this]
        congr 1
        omega
      · have := b k hk
        rw [sm] at this
        unfold lkN
        omega
def lk0 (s : Sh) : Nat → Nat := fun c => if c < sW s then sC s c else 0
theorem bc_m5 {s : Sh} (w : WS s) {m : Nat} (hm : m < 2 ^ sW s) : bc (m5 s m) 5 = bc m 20 := by
  have w5 := w.2.2.2.1
  rw [bc_small hm (by omega)]
  unfold bc
  rw [← ct_rev _ 5, ← ct_rev _ (sW s)]
  have : 5 = sW s + (5 - sW s) := by omega
  rw [this, fb_ct_split, ← this]
  have z : fb_ct (fun k => (m5 s m).testBit (5 - 1 - (sW s + k))) (5 - sW s) = 0 := by
    rw [fb_ct_zero]
    intro k hk
    have := m5_bit w (m := m) (c := sW s + k) (by omega)
    rw [show 5 - 1 - (sW s + k) = 4 - (sW s + k) by omega, this]
    have z : ¬ sW s + k < sW s := by omega
    rw [decide_eq_false z]
    rfl
  rw [z]
  refine (Nat.add_zero _).trans (fb_ct_cong fun k hk => ?_)
  rw [show 5 - 1 - k = 4 - k by omega, m5_bit w (by omega)]
  simp [hk]
theorem gd_ans {s : Sh} (w : WS s) {q : Nat} (hq : q < 2 ^ (sW s * sH s)) : gd s (sH s) (lk0 s) q = isAns0 s q := by
  have w5 := w.2.2.2.1
  have dgr : ∀ i, dg s (sH s) q i = rwO s q i := fun i => rfl
  rw [Bool.eq_iff_iff, gd_iff s _ _ _ (Nat.le_refl _) hq, isAns0_iff w]
  simp only [dgr]
  refine and_congr ?_ ?_
  · refine forall_congr' fun i => forall_congr' fun hi => ?_
    rw [bc_m5 w (rwO_lt s q i), Nat.sub_self, Nat.zero_add]
  · constructor
    · intro h c hc
      have := h c (by omega)
      unfold lk0 at this
      rw [if_pos hc] at this
      rw [← this]
      refine fb_sm_cong fun i _ => ?_
      unfold bitN
      rw [m5_bit w (by omega)]
      simp [hc]
    · intro h c hc
      unfold lk0
      by_cases z : c < sW s
      · rw [if_pos z, ← h c z]
        refine fb_sm_cong fun i _ => ?_
        unfold bitN
        rw [m5_bit w (by omega)]
        simp [z]
      · rw [if_neg z]
        have : ∀ i, i < sH s → bitN (m5 s (rwO s q i)) (4 - c) = (fun _ => 0) i := by
          intro i _
          unfold bitN
          rw [m5_bit w hc]
          simp [z]
        rw [fb_sm_cong this, fb_sm_const]
        rfl
theorem Gc_ans {s : Sh} (w : WS s) : Gc s (sH s) 0 (lk0 s) = (ans0 s).map (fun q => q * 2 ^ (20 - sN s)) := by
  rw [Gc_eq w (sH s) 0 (lk0 s) (Nat.le_refl _) ?_ ?_ ⟨0, by simp⟩]
  · have e : Al s (sH s) (lk0 s) = ans0 s := by
      unfold Al ans0 sN
      rw [Nat.mul_comm (sH s)]
      refine List.filter_congr fun q hq => ?_
      rw [List.mem_range] at hq
      exact gd_ans w hq
    rw [e]
    refine List.map_congr_left fun q _ => ?_
    unfold sN
    rw [Nat.zero_add, Nat.mul_comm (sW s) (sH s)]
  · intro c hc
    unfold lk0
    split
    · exact w.2.2.2.2.2.1 c (by assumption)
    · omega
  · intro c h1 h2
    unfold lk0
    rw [if_neg (by omega)]
theorem lk0_8 {s : Sh} (w : WS s) (c : Nat) : lk0 s c < 8 := by
  unfold lk0
  split
  · have := w.2.2.2.2.2.1 c (by assumption)
    have := w.2.1
    omega
  · omega
theorem lk0_K5 (s : Sh) (b : Nat) : (P5 fun c => decide (c < sW s) && (sC s c).testBit b) = K5 (lk0 s) b := by
  unfold K5
  refine P5_congr fun c _ => ?_
  unfold lk0
  by_cases h : c < sW s
  · simp [h]
  · simp [h]
