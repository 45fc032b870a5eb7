/-! the model's list is the list of answers -/
theorem sorted_eq : ∀ {l1 l2 : List Nat}, l1.Pairwise (· < ·) → l2.Pairwise (· < ·) → (∀ x, x ∈ l1 ↔ x ∈ l2) → l1 = l2
  | [], [], _, _, _ => rfl
  | [], b :: l2, _, _, h => absurd ((h b).mpr List.mem_cons_self) (by simp)
  | a :: l1, [], _, _, h => absurd ((h a).mp List.mem_cons_self) (by simp)
  | a :: l1, b :: l2, h1, h2, h => by
    obtain ⟨a1, a2⟩ := List.pairwise_cons.mp h1
    obtain ⟨b1, b2⟩ := List.pairwise_cons.mp h2
    have hab : a = b := by
      rcases List.mem_cons.mp ((h a).mp List.mem_cons_self) with q | q
      · exact q
      · rcases List.mem_cons.mp ((h b).mpr List.mem_cons_self) with r | r
        · exact r.symm
        · have := b1 a q
          have := a1 b r
          omega
    subst hab
    congr 1
    refine sorted_eq a2 b2 fun x => ?_
    constructor
    · intro hx
      rcases List.mem_cons.mp ((h x).mp (List.mem_cons_of_mem _ hx)) with q | q
      · subst q; exact absurd (a1 _ hx) (Nat.lt_irrefl _)
      · exact q
    · intro hx
      rcases List.mem_cons.mp ((h x).mpr (List.mem_cons_of_mem _ hx)) with q | q
      · subst q; exact absurd (b1 _ hx) (Nat.lt_irrefl _)
      · exact q
theorem ans0_sorted (s : Sh) : (ans0 s).Pairwise (· < ·) := List.Pairwise.filter _ List.pairwise_lt_range
theorem ans_sorted (s : Sh) : (ans s).Pairwise (· < ·) := List.Pairwise.filter _ (ans0_sorted s)
theorem rowA_sorted (s : Sh) (pn : Bool) (r : Nat) : (rowA s pn r).Pairwise (· < ·) := by
  unfold rowA rowL rowF
  split
  · exact List.Pairwise.filter _ List.pairwise_lt_range
  · simp
/-- the four masks in one number -/
def fN (s : Sh) (a b c d : Nat) : Nat := ((a * 2 ^ sW s + b) * 2 ^ sW s + c) * 2 ^ sW s + d
theorem L0_mem (s : Sh) (pn : Bool) (q : Nat) : q ∈ L0 s pn (rowA s pn 0) ↔ ∃ a b c d, a ∈ rowA s pn 0 ∧ b ∈ rowA s pn 1 ∧ c ∈ rowA s pn 2 ∧ d ∈ rowA s pn 3 ∧ pkd s a + pkd s b + pkd s c + pkd s d = tgt s ∧ q = pv s a b c d := by
  unfold L0 L1 L2 L3
  simp only [List.mem_flatMap]
  constructor
  · rintro ⟨a, ha, b, hb, c, hc, d, hd, h⟩
    by_cases e : pkd s a + pkd s b + pkd s c + pkd s d = tgt s
    · rw [if_pos e] at h
      exact ⟨a, b, c, d, ha, hb, hc, hd, e, by simpa using h⟩
    · rw [if_neg e] at h; simp at h
  · rintro ⟨a, b, c, d, ha, hb, hc, hd, e, rfl⟩
    exact ⟨a, ha, b, hb, c, hc, d, hd, by rw [if_pos e]; simp⟩
theorem rowA_0 {s : Sh} {pn : Bool} {r m : Nat} (hr : sH s ≤ r) (h : m ∈ rowA s pn r) : m = 0 := by
  unfold rowA at h
  rw [if_neg (by omega)] at h
  simpa using h
theorem pv_mul {s : Sh} (w : WS s) {pn : Bool} {a b c d : Nat} (hb : b ∈ rowA s pn 1) (hc : c ∈ rowA s pn 2) (hd : d ∈ rowA s pn 3) : pv s a b c d * 2 ^ (sW s * (4 - sH s)) = fN s a b c d := by
  obtain ⟨h1, h4, -⟩ := w
  unfold pv
  show fN s a b c d / 2 ^ (sW s * (4 - sH s)) * 2 ^ (sW s * (4 - sH s)) = fN s a b c d
  refine Nat.div_mul_cancel ?_
  unfold fN
  have hh : sH s = 1 ∨ sH s = 2 ∨ sH s = 3 ∨ sH s = 4 := by omega
  rcases hh with e | e | e | e
  · have e1 := rowA_0 (by omega) hb
    have e2 := rowA_0 (by omega) hc
    have e3 := rowA_0 (by omega) hd
    subst e1; subst e2; subst e3
    rw [e]
    refine ⟨a, ?_⟩
    rw [show sW s * (4 - 1) = sW s + sW s + sW s by omega, Nat.pow_add, Nat.pow_add]
    simp only [Nat.add_zero, Nat.mul_assoc, Nat.mul_comm, Nat.mul_left_comm]
  · have e2 := rowA_0 (by omega) hc
    have e3 := rowA_0 (by omega) hd
    subst e2; subst e3
    rw [e]
    refine ⟨a * 2 ^ sW s + b, ?_⟩
    rw [show sW s * (4 - 2) = sW s + sW s by omega, Nat.pow_add]
    simp only [Nat.add_zero]
    rw [Nat.mul_assoc, Nat.mul_comm]
  · have e3 := rowA_0 (by omega) hd
    subst e3
    rw [e]
    refine ⟨(a * 2 ^ sW s + b) * 2 ^ sW s + c, ?_⟩
    rw [show sW s * (4 - 3) = sW s by omega]
    simp only [Nat.add_zero]
    rw [Nat.mul_comm]
  · rw [e]
    simp
theorem fN_lt {W a b c d a' b' c' d' : Nat} (hb : b < W) (hc : c < W) (hd : d < W) (h : a < a' ∨ a = a' ∧ (b < b' ∨ b = b' ∧ (c < c' ∨ c = c' ∧ d < d'))) : ((a * W + b) * W + c) * W + d < ((a' * W + b') * W + c') * W + d' := by
  have step : ∀ {x y u v : Nat}, u < W → x < y → x * W + u < y * W + v := by
    intro x y u v hu hxy
    have : (x + 1) * W ≤ y * W := Nat.mul_le_mul hxy (Nat.le_refl _)
    rw [Nat.add_mul] at this
    omega
  rcases h with h | ⟨rfl, h | ⟨rfl, h | ⟨rfl, h⟩⟩⟩
  · exact step hd (step hc (step hb h))
  · exact step hd (step hc (by omega))
  · exact step hd (by omega)
  · omega
theorem pv_lt {s : Sh} (w : WS s) {pn : Bool} {a b c d a' b' c' d' : Nat} (hb : b ∈ rowA s pn 1) (hc : c ∈ rowA s pn 2) (hd : d ∈ rowA s pn 3) (hb' : b' ∈ rowA s pn 1) (hc' : c' ∈ rowA s pn 2) (hd' : d' ∈ rowA s pn 3) (h : a < a' ∨ a = a' ∧ (b < b' ∨ b = b' ∧ (c < c' ∨ c = c' ∧ d < d'))) : pv s a b c d < pv s a' b' c' d' := by
  have h1 := pv_mul (a := a) w hb hc hd
  have h2 := pv_mul (a := a') w hb' hc' hd'
  have h3 : fN s a b c d < fN s a' b' c' d' := fN_lt (rowA_lt w hb) (rowA_lt w hc) (rowA_lt w hd) h
  rw [← h1, ← h2] at h3
  exact Nat.lt_of_mul_lt_mul_right h3
theorem L0_sorted {s : Sh} (w : WS s) (pn : Bool) : (L0 s pn (rowA s pn 0)).Pairwise (· < ·) := by
  have mem3 : ∀ {a b c x : Nat} {l : List Nat}, x ∈ L3 s a b c l → ∃ d, d ∈ l ∧ x = pv s a b c d := by
    intro a b c x l h
    unfold L3 at h
    obtain ⟨d, hd, h⟩ := List.mem_flatMap.mp h
    split at h
    · exact ⟨d, hd, by simpa using h⟩
    · simp at h
  unfold L0
  rw [List.pairwise_flatMap]
  refine ⟨fun a ha => ?_, (rowA_sorted s pn 0).imp fun {a a'} haa x hx y hy => ?_⟩
  · unfold L1
    rw [List.pairwise_flatMap]
    refine ⟨fun b hb => ?_, List.Pairwise.imp_of_mem (fun {b b'} hb hb' hbb x hx y hy => ?_) (rowA_sorted s pn 1)⟩
    · unfold L2
      rw [List.pairwise_flatMap]
      refine ⟨fun c hc => ?_, List.Pairwise.imp_of_mem (fun {c c'} hc hc' hcc x hx y hy => ?_) (rowA_sorted s pn 2)⟩
      · unfold L3
        rw [List.pairwise_flatMap]
        refine ⟨fun d hd => by split <;> simp, List.Pairwise.imp_of_mem (fun {d d'} hd hd' hdd x hx y hy => ?_) (rowA_sorted s pn 3)⟩
        split at hx
        · split at hy
          · simp only [List.mem_singleton] at hx hy
            subst hx; subst hy
            exact pv_lt w hb hc hd hb hc hd' (Or.inr ⟨rfl, Or.inr ⟨rfl, Or.inr ⟨rfl, hdd⟩⟩⟩)
          · simp at hy
        · simp at hx
      · obtain ⟨d, hd, rfl⟩ := mem3 hx
        obtain ⟨d', hd', rfl⟩ := mem3 hy
        exact pv_lt w hb hc hd hb hc' hd' (Or.inr ⟨rfl, Or.inr ⟨rfl, Or.inl hcc⟩⟩)
    · obtain ⟨c, hc, hx⟩ := List.mem_flatMap.mp hx
      obtain ⟨c', hc', hy⟩ := List.mem_flatMap.mp hy
      obtain ⟨d, hd, rfl⟩ := mem3 hx
      obtain ⟨d', hd', rfl⟩ := mem3 hy
      exact pv_lt w hb hc hd hb' hc' hd' (Or.inr ⟨rfl, Or.inl hbb⟩)
  · obtain ⟨b, hb, hx⟩ := List.mem_flatMap.mp hx
    obtain ⟨b', hb', hy⟩ := List.mem_flatMap.mp hy
    obtain ⟨c, hc, hx⟩ := List.mem_flatMap.mp hx
    obtain ⟨c', hc', hy⟩ := List.mem_flatMap.mp hy
    obtain ⟨d, hd, rfl⟩ := mem3 hx
    obtain ⟨d', hd', rfl⟩ := mem3 hy
    exact pv_lt w hb hc hd hb' hc' hd' (Or.inl haa)
/-- row r of a plane -/
def rwO (s : Sh) (q r : Nat) : Nat := q / 2 ^ (sW s * (sH s - 1 - r)) % 2 ^ sW s
theorem rwO_lt (s : Sh) (q r : Nat) : rwO s q r < 2 ^ sW s := Nat.mod_lt _ (Nat.two_pow_pos _)
theorem rwO_bit {s : Sh} {q r c : Nat} (hr : r < sH s) (hc : c < sW s) : (rwO s q r).testBit (sW s - 1 - c) = cb s q (sW s * r + c) := by
  unfold rwO cb sN
  rw [Nat.testBit_mod_two_pow, Nat.testBit_div_two_pow]
  have e : sW s * (sH s - 1 - r) + (sW s - 1 - c) = sH s * sW s - 1 - (sW s * r + c) := by
    obtain ⟨k, hk⟩ : ∃ k, sH s = r + 1 + k := ⟨sH s - r - 1, by omega⟩
    rw [hk, show r + 1 + k - 1 - r = k by omega, Nat.add_mul, Nat.add_mul, Nat.mul_comm r, Nat.mul_comm k]
    omega
  rw [Nat.add_comm, Nat.add_comm (sW s - 1 - c)] at *
  rw [show sW s * (sH s - 1 - r) + (sW s - 1 - c) = sH s * sW s - 1 - (sW s * r + c) by omega] at *
  simp [show sW s - 1 - c < sW s by omega]
theorem ct_rev (p : Nat → Bool) : ∀ n, fb_ct (fun c => p (n - 1 - c)) n = fb_ct p n := by
  intro n
  induction n with
  | zero => rfl
  | succ n ih =>
    have h1 := fb_ct_split (fun c => p (n + 1 - 1 - c)) 1 n
    rw [Nat.add_comm 1 n] at h1
    rw [h1]
    have h2 : fb_ct (fun k => p (n + 1 - 1 - (1 + k))) n = fb_ct (fun c => p (n - 1 - c)) n := fb_ct_cong (fun k hk => by congr 1; omega)
    rw [h2, ih, fb_ct_succ p n]
    simp [fb_ct]
    omega
theorem row_ct {s : Sh} (w : WS s) {q r : Nat} (hr : r < sH s) : fb_ct (fun c => cb s q (sW s * r + c)) (sW s) = bc (rwO s q r) 20 := by
  have w5 := w.2.2.2.1
  rw [bc_small (rwO_lt s q r) (show sW s ≤ 20 by omega)]
  unfold bc
  rw [← ct_rev (fun j => (rwO s q r).testBit j)]
  exact fb_ct_cong (fun c hc => (rwO_bit hr hc).symm)
theorem col_ct {s : Sh} {q c : Nat} (hc : c < sW s) (n : Nat) (hn : n ≤ sH s) : fb_ct (fun r => cb s q (sW s * r + c)) n = fb_sm (fun r => bitN (rwO s q r) (sW s - 1 - c)) n := by
  induction n with
  | zero => rfl
  | succ n ih =>
    rw [fb_ct_succ, fb_sm_succ, ih (by omega)]
    congr 1
    unfold bitN
    rw [rwO_bit (by omega) hc]
theorem isAns0_iff {s : Sh} (w : WS s) (q : Nat) : isAns0 s q = true ↔ (∀ r, r < sH s → bc (rwO s q r) 20 = sR s r) ∧ ∀ c, c < sW s → fb_sm (fun r => bitN (rwO s q r) (sW s - 1 - c)) (sH s) = sC s c := by
  unfold isAns0
  simp only [Bool.and_eq_true, List.all_eq_true, List.mem_range, beq_iff_eq]
  constructor
  · rintro ⟨h1, h2⟩
    exact ⟨fun r hr => by rw [← row_ct w hr]; exact h1 r hr, fun c hc => by rw [← col_ct hc _ (Nat.le_refl _)]; exact h2 c hc⟩
  · rintro ⟨h1, h2⟩
    exact ⟨fun r hr => by rw [row_ct w hr]; exact h1 r hr, fun c hc => by rw [col_ct hc _ (Nat.le_refl _)]; exact h2 c hc⟩
theorem isPin_iff {s : Sh} (w : WS s) (q : Nat) : isPin s q = true ↔ ∀ r, r < sH s → ∀ c, c < sW s → pok s r (rwO s q r) c = true := by
  have w1 := w.2.2.1
  have key : ∀ r, r < sH s → ∀ c, c < sW s → (((sP s (sW s * r + c) != 1 || cb s q (sW s * r + c)) && (sP s (sW s * r + c) != 2 || !cb s q (sW s * r + c))) = pok s r (rwO s q r) c) := by
    intro r hr c hc
    have hcell : sW s * r + c < sN s := by
      unfold sN
      have : sW s * r + sW s ≤ sW s * sH s := by rw [← Nat.mul_succ]; exact Nat.mul_le_mul (Nat.le_refl _) hr
      rw [Nat.mul_comm (sH s)]; omega
    have hp := w.2.2.2.2.2.2.1 _ hcell
    unfold pok
    rw [rwO_bit hr hc]
    have : sP s (sW s * r + c) = 0 ∨ sP s (sW s * r + c) = 1 ∨ sP s (sW s * r + c) = 2 := by omega
    rcases this with e | e | e <;> rw [e] <;> cases cb s q (sW s * r + c) <;> rfl
  unfold isPin
  simp only [List.all_eq_true, List.mem_range]
  constructor
  · intro h r hr c hc
    rw [← key r hr c hc]
    refine h _ ?_
    unfold sN
    have : sW s * r + sW s ≤ sW s * sH s := by rw [← Nat.mul_succ]; exact Nat.mul_le_mul (Nat.le_refl _) hr
    rw [Nat.mul_comm (sH s)]; omega
  · intro h k hk
    have e : k = sW s * (k / sW s) + k % sW s := (Nat.div_add_mod k (sW s)).symm
    have hr : k / sW s < sH s := by
      unfold sN at hk
      exact Nat.div_lt_of_lt_mul (by rw [Nat.mul_comm]; exact hk)
    have hc : k % sW s < sW s := Nat.mod_lt _ w1
    rw [e, key _ hr _ hc]
    exact h _ hr _ hc
/-- row r of four -/
def MR (s : Sh) (F r : Nat) : Nat := F / 2 ^ (sW s * (3 - r)) % 2 ^ sW s
theorem MR_lo {s : Sh} (w : WS s) (q r : Nat) (hr : r < sH s) : MR s (q * 2 ^ (sW s * (4 - sH s))) r = rwO s q r := by
  have h4 := w.2.1
  unfold MR rwO
  have e : sW s * (3 - r) = sW s * (4 - sH s) + sW s * (sH s - 1 - r) := by rw [← Nat.mul_add]; congr 1; omega
  rw [e, Nat.pow_add, ← Nat.div_div_eq_div_mul, Nat.mul_div_cancel _ (Nat.two_pow_pos _)]
theorem MR_hi {s : Sh} (q r : Nat) (hr : sH s ≤ r) (h3 : r < 4) : MR s (q * 2 ^ (sW s * (4 - sH s))) r = 0 := by
  unfold MR
  have e : sW s * (4 - sH s) = sW s * (r - sH s) + sW s + sW s * (3 - r) := by
    rw [← Nat.mul_succ, ← Nat.mul_add]; congr 1; omega
  rw [e, Nat.pow_add, ← Nat.mul_assoc, Nat.mul_div_cancel _ (Nat.two_pow_pos _), Nat.pow_add, ← Nat.mul_assoc, Nat.mul_mod_left]
theorem MR_fN {s : Sh} {a b c d : Nat} (ha : a < 2 ^ sW s) (hb : b < 2 ^ sW s) (hc : c < 2 ^ sW s) (hd : d < 2 ^ sW s) : MR s (fN s a b c d) 0 = a ∧ MR s (fN s a b c d) 1 = b ∧ MR s (fN s a b c d) 2 = c ∧ MR s (fN s a b c d) 3 = d := by
  have W0 : 0 < 2 ^ sW s := Nat.two_pow_pos _
  have dv : ∀ x y : Nat, y < 2 ^ sW s → (x * 2 ^ sW s + y) / 2 ^ sW s = x := fun x y hy => by
    rw [Nat.mul_comm, Nat.mul_add_div W0, Nat.div_eq_of_lt hy, Nat.add_zero]
  have md : ∀ x y : Nat, y < 2 ^ sW s → (x * 2 ^ sW s + y) % 2 ^ sW s = y := fun x y hy => by
    rw [Nat.mul_comm, Nat.mul_add_mod, Nat.mod_eq_of_lt hy]
  unfold MR fN
  refine ⟨?_, ?_, ?_, ?_⟩
  · rw [show sW s * (3 - 0) = sW s + sW s + sW s by omega, Nat.pow_add, Nat.pow_add, ← Nat.div_div_eq_div_mul, ← Nat.div_div_eq_div_mul, dv _ _ hd, dv _ _ hc, dv _ _ hb, Nat.mod_eq_of_lt ha]
  · rw [show sW s * (3 - 1) = sW s + sW s by omega, Nat.pow_add, ← Nat.div_div_eq_div_mul, dv _ _ hd, dv _ _ hc, md _ _ hb]
  · rw [show sW s * (3 - 2) = sW s by omega, dv _ _ hd, md _ _ hc]
  · rw [show sW s * (3 - 3) = 0 by omega, Nat.pow_zero, Nat.div_one, md _ _ hd]
theorem fN_MR {s : Sh} {F : Nat} (hF : F < 2 ^ (sW s * 4)) : fN s (MR s F 0) (MR s F 1) (MR s F 2) (MR s F 3) = F := by
  have W0 : 0 < 2 ^ sW s := Nat.two_pow_pos _
  unfold fN MR
  rw [show sW s * (3 - 0) = sW s + sW s + sW s by omega, show sW s * (3 - 1) = sW s + sW s by omega, show sW s * (3 - 2) = sW s by omega, show sW s * (3 - 3) = 0 by omega, Nat.pow_zero, Nat.div_one, Nat.pow_add, Nat.pow_add, ← Nat.div_div_eq_div_mul, ← Nat.div_div_eq_div_mul]
  have h3 : F / 2 ^ sW s / 2 ^ sW s / 2 ^ sW s < 2 ^ sW s := by
    rw [Nat.div_div_eq_div_mul, Nat.div_div_eq_div_mul]
    apply Nat.div_lt_of_lt_mul
    rw [← Nat.pow_add, ← Nat.pow_add, ← Nat.pow_add]
    rw [show sW s + (sW s + sW s) + sW s = sW s * 4 by omega]
    exact hF
  rw [Nat.mod_eq_of_lt h3]
  have r1 : ∀ x, x / 2 ^ sW s * 2 ^ sW s + x % 2 ^ sW s = x := fun x => by rw [Nat.mul_comm]; exact Nat.div_add_mod x _
  rw [r1, r1, r1]
theorem sum4 {s : Sh} (w : WS s) (f : Nat → Nat) (h0 : ∀ r, sH s ≤ r → r < 4 → f r = 0) : fb_sm f (sH s) = f 0 + f 1 + f 2 + f 3 := by
  obtain ⟨h1, h4, -⟩ := w
  have hh : sH s = 1 ∨ sH s = 2 ∨ sH s = 3 ∨ sH s = 4 := by omega
  rcases hh with e | e | e | e <;> rw [e] at h0 ⊢
  · have := h0 1 (by omega) (by omega); have := h0 2 (by omega) (by omega); have := h0 3 (by omega) (by omega)
    simp [fb_sm]; omega
  · have := h0 2 (by omega) (by omega); have := h0 3 (by omega) (by omega)
    simp [fb_sm]; omega
  · have := h0 3 (by omega) (by omega)
    simp [fb_sm]; omega
  · simp [fb_sm]
theorem cond_iff {s : Sh} (w : WS s) (a b c d : Nat) : pkd s a + pkd s b + pkd s c + pkd s d = tgt s ↔ ∀ k, k < sW s → bitN a (sW s - 1 - k) + bitN b (sW s - 1 - k) + bitN c (sW s - 1 - k) + bitN d (sW s - 1 - k) = sC s k := by
  unfold pkd tgt
  rw [← pkS_add, ← pkS_add, ← pkS_add]
  have hb : ∀ m k, bitN m k ≤ 1 := fun m k => by unfold bitN; split <;> decide
  refine pkS_inj (fun k _ => ?_) (fun k hk => ?_)
  · have := hb a (sW s - 1 - k); have := hb b (sW s - 1 - k); have := hb c (sW s - 1 - k); have := hb d (sW s - 1 - k)
    omega
  · have := w.2.2.2.2.2.1 k hk; have := w.2.1; omega
theorem bitN_0 (k : Nat) : bitN 0 k = 0 := by simp [bitN]
theorem rowA_mem {s : Sh} {pn : Bool} {r m : Nat} (hr : r < sH s) : m ∈ rowA s pn r ↔ m < 2 ^ sW s ∧ bc m 20 = sR s r ∧ (pn = true → ∀ c, c < sW s → pok s r m c = true) := by
  unfold rowA rowL rowF rowok
  rw [if_pos hr, List.mem_filter, List.mem_range]
  simp only [Bool.and_eq_true, beq_iff_eq, Bool.or_eq_true, Bool.not_eq_true', List.all_eq_true, List.mem_range]
  cases pn <;> simp
/-- the model's list -/
theorem L0_ans {s : Sh} (w : WS s) (pn : Bool) : L0 s pn (rowA s pn 0) = if pn then ans s else ans0 s := by
  have h4 := w.2.1
  have h1 := w.1
  have hsort : (if pn then ans s else ans0 s).Pairwise (· < ·) := by cases pn; exact ans0_sorted s; exact ans_sorted s
  have hmem : ∀ q, q ∈ (if pn then ans s else ans0 s) ↔ q < 2 ^ sN s ∧ isAns0 s q = true ∧ (pn = true → isPin s q = true) := by
    intro q
    cases pn
    · simp [ans0, List.mem_filter, List.mem_range]
    · simp only [ans, ans0, if_true, List.mem_filter, List.mem_range]
      constructor
      · rintro ⟨⟨x, y⟩, z⟩; exact ⟨x, y, fun _ => z⟩
      · rintro ⟨x, y, z⟩; exact ⟨⟨x, y⟩, z trivial⟩
  refine sorted_eq (L0_sorted w pn) hsort fun q => ?_
  rw [hmem, L0_mem]
  have eN : sW s * 4 = sN s + sW s * (4 - sH s) := by
    unfold sN
    rw [Nat.mul_comm (sH s), ← Nat.mul_add]; congr 1; omega
  constructor
  · rintro ⟨a, b, c, d, ha, hb, hc, hd, hcond, rfl⟩
    have la := rowA_lt w ha
    have lb := rowA_lt w hb
    have lc := rowA_lt w hc
    have ld := rowA_lt w hd
    have hmul := pv_mul (a := a) w hb hc hd
    obtain ⟨M0, M1, M2, M3⟩ := MR_fN la lb lc ld
    rw [← hmul] at M0 M1 M2 M3
    have lq : pv s a b c d < 2 ^ sN s := by
      have hlt : fN s a b c d < 2 ^ (sW s * 4) := by
        have := cat_lt (cat_lt (cat_lt la lb) lc) ld
        rw [show sW s * 4 = sW s + sW s + sW s + sW s by omega]
        exact this
      rw [← hmul, eN, Nat.pow_add] at hlt
      exact Nat.lt_of_mul_lt_mul_right hlt
    have hrow : ∀ r, r < sH s → rwO s (pv s a b c d) r ∈ rowA s pn r := by
      intro r hr
      rw [← MR_lo w _ r hr]
      have : r = 0 ∨ r = 1 ∨ r = 2 ∨ r = 3 := by omega
      rcases this with rfl | rfl | rfl | rfl
      · rw [M0]; exact ha
      · rw [M1]; exact hb
      · rw [M2]; exact hc
      · rw [M3]; exact hd
    refine ⟨lq, (isAns0_iff w _).mpr ⟨fun r hr => ((rowA_mem hr).mp (hrow r hr)).2.1, fun k hk => ?_⟩, fun hp => (isPin_iff w _).mpr fun r hr k hk => ((rowA_mem hr).mp (hrow r hr)).2.2 hp k hk⟩
    rw [← (cond_iff w a b c d).mp hcond k hk]
    have e1 : fb_sm (fun r => bitN (rwO s (pv s a b c d) r) (sW s - 1 - k)) (sH s) = fb_sm (fun r => bitN (MR s (pv s a b c d * 2 ^ (sW s * (4 - sH s))) r) (sW s - 1 - k)) (sH s) := fb_sm_cong (fun r hr => by rw [MR_lo w _ r hr])
    rw [e1, sum4 w _ (fun r hr h3 => by rw [MR_hi _ r hr h3, bitN_0]), M0, M1, M2, M3]
  · rintro ⟨lq, hA, hP⟩
    obtain ⟨hR, hC⟩ := (isAns0_iff w q).mp hA
    have lF : q * 2 ^ (sW s * (4 - sH s)) < 2 ^ (sW s * 4) := by
      rw [eN, Nat.pow_add]
      exact Nat.mul_lt_mul_of_pos_right lq (Nat.two_pow_pos _)
    have hrow : ∀ r, r < 4 → MR s (q * 2 ^ (sW s * (4 - sH s))) r ∈ rowA s pn r := by
      intro r hr
      by_cases c : r < sH s
      · rw [MR_lo w q r c, rowA_mem c]
        exact ⟨rwO_lt s q r, hR r c, fun hp k hk => (isPin_iff w q).mp (hP hp) r c k hk⟩
      · rw [MR_hi q r (by omega) hr]
        unfold rowA
        rw [if_neg c]
        simp
    refine ⟨_, _, _, _, hrow 0 (by decide), hrow 1 (by decide), hrow 2 (by decide), hrow 3 (by decide), ?_, ?_⟩
    · rw [cond_iff w]
      intro k hk
      rw [← hC k hk, ← sum4 w (fun r => bitN (MR s (q * 2 ^ (sW s * (4 - sH s))) r) (sW s - 1 - k)) (fun r hr h3 => by rw [MR_hi _ r hr h3, bitN_0])]
      exact fb_sm_cong (fun r hr => by rw [MR_lo w _ r hr])
    · have h5 := pv_mul (a := MR s (q * 2 ^ (sW s * (4 - sH s))) 0) w (hrow 1 (by decide)) (hrow 2 (by decide)) (hrow 3 (by decide))
      rw [fN_MR lF] at h5
      exact (Nat.eq_of_mul_eq_mul_right (Nat.two_pow_pos _) h5).symm
