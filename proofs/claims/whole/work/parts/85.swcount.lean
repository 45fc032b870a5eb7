/-! switches counted, the first one -/
theorem ct_mul (p : Nat → Bool) (b : Nat) : ∀ a, fb_ct p (a * b) = fb_sm (fun i => fb_ct (fun j => p (i * b + j)) b) a
  | 0 => by rw [Nat.zero_mul]; rfl
  | a + 1 => by rw [Nat.succ_mul, fb_ct_split, ct_mul p b a, fb_sm_succ]
theorem sm_mul (f : Nat → Nat) (b : Nat) : ∀ a, fb_sm f (a * b) = fb_sm (fun i => fb_sm (fun j => f (i * b + j)) b) a
  | 0 => by rw [Nat.zero_mul]; rfl
  | a + 1 => by rw [Nat.succ_mul, fb_sm_split, sm_mul f b a, fb_sm_succ]
theorem sm_if (p : Nat → Bool) (K : Nat) : ∀ n, fb_sm (fun c => if p c then K else 0) n = fb_ct p n * K
  | 0 => by rw [show fb_ct p 0 = 0 from rfl, Nat.zero_mul]; rfl
  | n + 1 => by
    rw [fb_sm_succ, fb_ct_succ, sm_if p K n, Nat.add_mul]
    congr 1
    by_cases c : p n = true
    · rw [if_pos c, if_pos c, Nat.one_mul]
    · rw [if_neg c, if_neg c, Nat.zero_mul]
theorem lexlt {a b x y n : Nat} (hb : b < n) (hy : y < n) (h : a * n + b < x * n + y) : a < x ∨ (a = x ∧ b < y) := by
  rcases Nat.lt_trichotomy a x with q | q | q
  · exact Or.inl q
  · subst q; exact Or.inr ⟨rfl, by omega⟩
  · have := Nat.mul_le_mul_right n (show x + 1 ≤ a from q)
    rw [Nat.succ_mul] at this
    omega
def swck (h w : Nat) : Bool := (List.range h).all fun r => (List.range h).all fun r' => (List.range w).all fun c => (List.range w).all fun d => decide (((r * h + r') * (w * w) + (c * w + d)) / (h * w * w) = r ∧ ((r * h + r') * (w * w) + (c * w + d)) / (w * w) % h = r' ∧ ((r * h + r') * (w * w) + (c * w + d)) / w % w = c ∧ ((r * h + r') * (w * w) + (c * w + d)) % w = d)
theorem swck_ok : ∀ h, h < 5 → ∀ w, w < 6 → swck h w = true := by decide +kernel
theorem sw_comp (h : Nat) (hh : h < 5) (w : Nat) (hw : w < 6) (r : Nat) (hr : r < h) (r' : Nat) (hr' : r' < h) (c : Nat) (hc : c < w) (d : Nat) (hd : d < w) : ((r * h + r') * (w * w) + (c * w + d)) / (h * w * w) = r ∧ ((r * h + r') * (w * w) + (c * w + d)) / (w * w) % h = r' ∧ ((r * h + r') * (w * w) + (c * w + d)) / w % w = c ∧ ((r * h + r') * (w * w) + (c * w + d)) % w = d := by
  have := swck_ok h hh w hw
  simp only [swck, List.all_eq_true, List.mem_range, decide_eq_true_eq] at this
  exact this r hr r' hr' c hc d hd
theorem sw_reco : ∀ h, h < 5 → ∀ w, w < 6 → ∀ j, j < h * h * w * w → j = (j / (h * w * w) * h + j / (w * w) % h) * (w * w) + (j / w % w * w + j % w) ∧ j / (h * w * w) < h ∧ j / (w * w) % h < h ∧ j / w % w < w ∧ j % w < w := by decide +kernel
def swO (s : Sh) (r r' c d : Nat) : Bool := match s.2 with
  | none => false
  | some q => swc s q r r' c d
theorem swO_none {s : Sh} (p : s.2 = none) (r r' c d : Nat) : swO s r r' c d = false := by unfold swO; rw [p]
theorem swO_some {s : Sh} {q : Nat} (p : s.2 = some q) (r r' c d : Nat) : swO s r r' c d = swc s q r r' c d := by unfold swO; rw [p]
theorem fourN_pos {s : Sh} {r r' c d : Nat} (hr : r < sH s) (hr' : r' < sH s) (hc : c < sW s) (hd : d < sW s) : 0 < fourN s r r' c d := by
  rcases Nat.eq_zero_or_pos (fourN s r r' c d) with e | e
  · have := four_bit (k := sW s * r + c) hr hr' hc hd (cell_lt hr hc)
    rw [e] at this
    simp at this
  · exact e
theorem four_O {h : mH} {p r r' c d : Nat} {s : Sh} (w : WS s) (pb : PB s) (m : MS h p 0 s) (hr : r < sH s) (hr' : r' < sH s) (hc : c < sW s) (hd : d < sW s) : ∃ v, x_X9_four p (nI r) (nI r') (nI c) (nI d) h = some v ∧ (v = 0 ↔ swO s r r' c d = false) := by
  cases e : s.2 with
  | none => exact ⟨_, four_none w m e hr hr' hc hd, by rw [swO_none e]; simp⟩
  | some q =>
    have hq := pb q e
    have hl := pw20 w (four_lt w r r' c d)
    refine ⟨_, four_some w m e hq hr hr' hc hd, ?_⟩
    rw [swO_some e]
    by_cases g : swc s q r r' c d = true
    · rw [if_pos g, g]
      exact ⟨fun x => absurd x (nI_ne0 (fourN_pos hr hr' hc hd) (by omega)), fun x => by cases x⟩
    · rw [if_neg g]
      simpa using g
/-- by the model's number of four lines -/
def swP (s : Sh) (k : Nat) : Bool := decide (k / (sH s * sW s * sW s) < k / (sW s * sW s) % sH s) && swO s (k / (sH s * sW s * sW s)) (k / (sW s * sW s) % sH s) (k / sW s % sW s) (k % sW s)
def swV (s : Sh) (k : Nat) : Nat := 1000 * (k / (sH s * sW s * sW s)) + 100 * (k / (sW s * sW s) % sH s) + 10 * (k / sW s % sW s) + k % sW s
def swM (s : Sh) : Nat := sH s * sH s * sW s * sW s
def fsV (p : Nat → Bool) (V : Nat → Nat) (n : Nat) : Int32 := if fa_first p n < n then nI (V (fa_first p n)) else -9
def FstV (p : Nat → Bool) (V : Nat → Nat) (n : Nat) (r : Int32) : Prop := (r = -9 ∧ ∀ j, j < n → p j = false) ∨ ∃ j, j < n ∧ p j = true ∧ r = nI (V j) ∧ ∀ i, i < j → p i = false
theorem fsV_eq {p : Nat → Bool} {V : Nat → Nat} {n : Nat} {r : Int32} (a : FstV p V n r) : r = fsV p V n := by
  unfold fsV
  rcases a with ⟨a1, a2⟩ | ⟨j, a1, a2, a3, a4⟩
  · rw [if_neg, a1]
    intro c
    have := fa_first_yes p n c
    rw [a2 _ c] at this
    cases this
  · have e : fa_first p n = j := by
      rcases Nat.lt_trichotomy (fa_first p n) j with q | q | q
      · have := fa_first_yes p n (by omega)
        rw [a4 _ q] at this; cases this
      · exact q
      · rw [fa_first_no p n j q] at a2; cases a2
    rw [e, if_pos a1, a3]
theorem fsV_Fst (p : Nat → Bool) (V : Nat → Nat) (n : Nat) : FstV p V n (fsV p V n) := by
  unfold fsV
  have h1 := fa_first_no p n
  by_cases c : fa_first p n < n
  · rw [if_pos c]
    exact Or.inr ⟨_, c, fa_first_yes p n c, rfl, h1⟩
  · rw [if_neg c]
    have := fa_first_le p n
    exact Or.inl ⟨rfl, fun j hj => h1 j (by omega)⟩
theorem fsV_succ (p : Nat → Bool) (V : Nat → Nat) (n : Nat) : fsV p V (n + 1) = if p n = true ∧ fb_ct p n = 0 then nI (V n) else fsV p V n := by
  refine (fsV_eq ?_).symm
  by_cases z : fb_ct p n = 0
  · have z' := fb_ct_zero.mp z
    by_cases c : p n = true
    · rw [if_pos ⟨c, z⟩]
      exact Or.inr ⟨n, by omega, c, rfl, z'⟩
    · rw [if_neg (fun x => c x.1)]
      rcases fsV_Fst p V n with ⟨a1, a2⟩ | ⟨j, a1, a2, a3, a4⟩
      · refine Or.inl ⟨a1, fun j hj => ?_⟩
        by_cases d : j = n
        · subst d; simpa using c
        · exact a2 j (by omega)
      · rw [z' j a1] at a2; cases a2
  · rw [if_neg (fun x => z x.2)]
    rcases fsV_Fst p V n with ⟨a1, a2⟩ | ⟨j, a1, a2, a3, a4⟩
    · exact absurd (fb_ct_zero.mpr a2) z
    · exact Or.inr ⟨j, by omega, a2, a3, a4⟩
theorem swM_le {s : Sh} (w : WS s) : swM s ≤ 400 := Nat.mul_le_mul (Nat.mul_le_mul (Nat.mul_le_mul w.2.1 w.2.1) w.2.2.2.1) w.2.2.2.1
theorem mcount_eq {N v : Nat} {h : mH} {s : Sh} (hN : 1000 < N) (w : WS s) (pb : PB s) (m : MS h 85 0 s) : x_X9_countSwitches N (nI v) h = some (if ¬ nI v = 0 then fsV (swP s) (swV s) (swM s) else nI (fb_ct (swP s) (swM s))) := by
  have e0 := m.1
  have e1 := m.2.1
  rw [Nat.zero_add] at e1
  have M4 := swM_le w
  have h1 := w.1
  have h4 := w.2.1
  have w1 := w.2.2.1
  have w5 := w.2.2.2.1
  unfold x_X9_countSwitches
  simp only [mlet_eq]
  rw [e0, e1]
  have q1 : 0 < sH s * sW s * sW s := Nat.mul_pos (Nat.mul_pos h1 w1) w1
  have q2 : sH s * sW s * sW s ≤ 100 := Nat.mul_le_mul (Nat.mul_le_mul h4 w5) w5
  have q3 : 0 < sW s * sW s := Nat.mul_pos w1 w1
  have q4 : sW s * sW s ≤ 25 := Nat.mul_le_mul w5 w5
  have K := lpV (fun f (x : Int32 × Int32) i => x_X9_countSwitches_24 N (nI v) (nI (sH s)) (nI (sW s)) h f x.1 x.2 i) (fun j => (nI (fb_ct (swP s) j), fsV (swP s) (swV s) j)) (swM s) (some (if ¬ nI v = 0 then fsV (swP s) (swV s) (swM s) else nI (fb_ct (swP s) (swM s)))) (fun f j hj => ?_) (fun f => ?_) (f := N) (by omega)
  · exact K
  · show x_X9_countSwitches_24 N (nI v) (nI (sH s)) (nI (sW s)) h (f + 1) (nI (fb_ct (swP s) j)) (fsV (swP s) (swV s) j) (nI j) = x_X9_countSwitches_24 N (nI v) (nI (sH s)) (nI (sW s)) h f (nI (fb_ct (swP s) (j + 1))) (fsV (swP s) (swV s) (j + 1)) (nI (j + 1))
    obtain ⟨-, c1, c2, c3, c4⟩ := sw_reco (sH s) (by omega) (sW s) (by omega) j hj
    have cl := fb_ct_le (swP s) j
    have z1 : j / (sH s * sW s * sW s) ≤ j := Nat.div_le_self _ _
    have z2 : j / (sW s * sW s) ≤ j := Nat.div_le_self _ _
    have z3 : j / sW s ≤ j := Nat.div_le_self _ _
    rw [x_X9_countSwitches_24_s, pk_mul, pk_mul, pk_mul, pk_mul, pk_mul, pk_mul, if_neg (show ¬ nI (sH s * sH s * sW s * sW s) ≤ nI j from nI_ge hj (Nat.lt_of_le_of_lt M4 (by decide))), mzd_ok q1 (by omega), pk_div (by omega) q1 (by omega), mlet_eq, mzd_ok q3 (by omega), mzd_ok h1 (by omega), pk_div (by omega) q3 (by omega), xrem_nI (by omega) h1 (by omega), mlet_eq, mzd_ok w1 (by omega), mzd_ok w1 (by omega), pk_div (by omega) w1 (by omega), xrem_nI (by omega) w1 (by omega), mlet_eq, mzd_ok w1 (by omega), xrem_nI (by omega) w1 (by omega), mlet_eq, nI_1, fb_ct_succ, fsV_succ]
    unfold x_X9_countSwitches_112 x_X9_countSwitches_113
    by_cases lt : j / (sH s * sW s * sW s) < j / (sW s * sW s) % sH s
    · rw [if_neg (nI_ge lt (by omega))]
      obtain ⟨v', e', z'⟩ := four_O w pb m c1 c2 c3 c4
      rw [e', Option.bind_some, mlet_eq, mlet_eq, mlet_eq]
      by_cases g : swO s (j / (sH s * sW s * sW s)) (j / (sW s * sW s) % sH s) (j / sW s % sW s) (j % sW s) = true
      · have gp : swP s j = true := by unfold swP; rw [g]; simp [lt]
        have vz : ¬ v' = 0 := fun x => by rw [z'.mp x] at g; cases g
        rw [if_neg vz, if_neg (by decide), if_neg (by decide), if_pos gp, nI_1]
        congr 1
        by_cases cz : fb_ct (swP s) j = 0
        · rw [if_neg (by rw [cz]; decide), if_pos ⟨gp, cz⟩, show (1000 : Int32) = nI 1000 from rfl, show (100 : Int32) = nI 100 from rfl, show (10 : Int32) = nI 10 from rfl, pk_mul, pk_mul, pk_mul, nI_add, nI_add, nI_add]
          rfl
        · rw [if_pos (nI_ne0 (by omega) (by omega)), if_neg (fun x => cz x.2)]
      · have g' : swO s (j / (sH s * sW s * sW s)) (j / (sW s * sW s) % sH s) (j / sW s % sW s) (j % sW s) = false := by simpa using g
        have gp : ¬ swP s j = true := by unfold swP; rw [g']; simp
        rw [if_pos (z'.mpr g'), if_pos rfl, if_pos rfl, if_neg gp, if_neg (fun x => gp x.1)]
        show x_X9_countSwitches_24 N (nI v) (nI (sH s)) (nI (sW s)) h f (nI (fb_ct (swP s) j) + nI 0) _ _ = _
        rw [nI_add]
    · have gp : ¬ swP s j = true := by unfold swP; simp [lt]
      rw [if_pos (nI_le (by omega) (by omega)), mlet_eq, mlet_eq, if_pos rfl, if_pos rfl, if_neg gp, if_neg (fun x => gp x.1)]
      show x_X9_countSwitches_24 N (nI v) (nI (sH s)) (nI (sW s)) h f (nI (fb_ct (swP s) j) + nI 0) _ _ = _
      rw [nI_add, nI_1]
  · show x_X9_countSwitches_24 N (nI v) (nI (sH s)) (nI (sW s)) h (f + 1) (nI (fb_ct (swP s) (swM s))) (fsV (swP s) (swV s) (swM s)) (nI (swM s)) = _
    rw [x_X9_countSwitches_24_s, pk_mul, pk_mul, pk_mul, if_pos (show nI (sH s * sH s * sW s * sW s) ≤ nI (swM s) from nI_le (Nat.le_refl _) (by omega))]
/-! the class -/
theorem gv_bits {s : Sh} (w : WS s) (f : Nat → Bool) : x_J6_bitCount_0f7a4 (nI (P5 fun c => decide (c < sW s) && f c)) = some (nI (fb_ct f (sW s))) := by
  have w5 := w.2.2.2.1
  rw [bcnt (n := 5) (P5_lt _) (by decide)]
  congr 2
  unfold bc
  rw [fb_ct_cong (q := fun j => (fun c => decide (c < sW s) && f c) (5 - 1 - j)) (fun k hk => by rw [P5_bit]; simp [hk]), ct_rev (fun c => decide (c < sW s) && f c) 5, show 5 = sW s + (5 - sW s) by omega, fb_ct_split]
  have z : fb_ct (fun k => decide (sW s + k < sW s) && f (sW s + k)) (5 - sW s) = 0 := by
    rw [fb_ct_zero]
    intro k _
    have : ¬ sW s + k < sW s := by omega
    simp [this]
  rw [z, Nat.add_zero]
  refine fb_ct_cong fun k hk => ?_
  simp [hk]
def gN (s : Sh) (q r r' : Nat) : Nat := fb_ct (gv s q r r') (sW s)
def sw2 (s : Sh) (q r j : Nat) : Nat := fb_sm (fun r' => if r < r' then gN s q r r' * gN s q r' r else 0) j
def sw1 (s : Sh) (q j : Nat) : Nat := fb_sm (fun r => sw2 s q r (sH s)) j
theorem sw2_0 (s : Sh) (q r : Nat) : ∀ j, j ≤ r + 1 → sw2 s q r j = 0
  | 0, _ => rfl
  | j + 1, h => by
    have := sw2_0 s q r j (by omega)
    unfold sw2 at this ⊢
    rw [fb_sm_succ, this, if_neg (by omega)]
theorem ccount_some {N a q : Nat} {h : mH} {s : Sh} (hN : 1000 < N) (w : WS s) (cs : CS h a s) (p1 : s.2 = some q) (hq : q < 2 ^ sN s) : x_X6_switchCount N a h = some (nI (sw1 s q (sH s))) := by
  have h4 := w.2.1
  have pl : mgi h a 6 = shl s q := by rw [← plC_some p1]; exact cs.2.2.2.2.2.2
  unfold x_X6_switchCount
  rw [pl, if_pos (shl_pos w hq)]
  refine lpV (fun f (x : Int32) i => x_X6_switchCount_14 N a h f x i) (fun j => nI (sw1 s q j)) (sH s) _ (fun f j hj => ?_) (fun f => ?_) (by omega)
  · show x_X6_switchCount_14 N a h (f + 1) (nI (sw1 s q j)) (nI j) = x_X6_switchCount_14 N a h f (nI (sw1 s q (j + 1))) (nI (j + 1))
    rw [x_X6_switchCount_14_s, cs.1, if_neg (nI_ge hj (by omega)), mlet_eq, nI_1]
    refine lpI (fun g (x : Int32) i => x_X6_switchCount_26 N (x_X6_switchCount_14 N a h f) a (nI j) h g x i) (fun k x => j + 1 ≤ k ∧ x = nI (sw1 s q j + sw2 s q j k)) (fun o => o = x_X6_switchCount_14 N a h f (nI (sw1 s q (j + 1))) (nI (j + 1))) (sH s) (fun g k x hk hx => ?_) (fun g x hx => ?_) N (j + 1) (nI (sw1 s q j)) (by omega) (by omega) ⟨Nat.le_refl _, by rw [sw2_0 s q j _ (Nat.le_refl _), Nat.add_zero]⟩
    · refine Or.inl ⟨nI (sw1 s q j + sw2 s q j (k + 1)), ?_, by omega, rfl⟩
      show x_X6_switchCount_26 N (x_X6_switchCount_14 N a h f) a (nI j) h (g + 1) x (nI k) = x_X6_switchCount_26 N (x_X6_switchCount_14 N a h f) a (nI j) h g _ (nI (k + 1))
      rw [x_X6_switchCount_26_s, cs.1, if_neg (nI_ge hk (by omega)), pl, giving_eq w cs hj hk hq, Option.bind_some, gv_bits w, Option.bind_some, giving_eq w cs hk hj hq, Option.bind_some, gv_bits w, Option.bind_some, mlet_eq, hx.2, pk_mul, nI_add, nI_1]
      congr 2
      unfold sw2
      rw [fb_sm_succ, if_pos (by omega), Nat.add_assoc]
      rfl
    · show x_X6_switchCount_26 N (x_X6_switchCount_14 N a h f) a (nI j) h (g + 1) x (nI (sH s)) = _
      rw [x_X6_switchCount_26_s, cs.1, if_pos (nI_le (Nat.le_refl _) (by omega)), hx.2, nI_1]
      rfl
  · show x_X6_switchCount_14 N a h (f + 1) (nI (sw1 s q (sH s))) (nI (sH s)) = _
    rw [x_X6_switchCount_14_s, cs.1, if_pos (nI_le (Nat.le_refl _) (by omega))]
theorem sw_count {s : Sh} (w : WS s) {q : Nat} (p1 : s.2 = some q) : fb_ct (swP s) (swM s) = sw1 s q (sH s) := by
  have h4 := w.2.1
  have w5 := w.2.2.2.1
  unfold swM sw1 sw2
  rw [Nat.mul_assoc (sH s * sH s), ct_mul, sm_mul]
  refine fb_sm_cong fun r hr => fb_sm_cong fun r' hr' => ?_
  rw [ct_mul]
  have e : ∀ c, c < sW s → fb_ct (fun d => swP s ((r * sH s + r') * (sW s * sW s) + (c * sW s + d))) (sW s) = if gv s q r r' c then (if r < r' then gN s q r' r else 0) else 0 := fun c hc => by
    rw [fb_ct_cong (q := fun d => decide (r < r') && (gv s q r r' c && gv s q r' r d)) (fun d hd => by
      obtain ⟨k1, k2, k3, k4⟩ := sw_comp (sH s) (by omega) (sW s) (by omega) r hr r' hr' c hc d hd
      unfold swP
      rw [k1, k2, k3, k4, swO_some p1]
      rfl)]
    by_cases g : gv s q r r' c = true
    · rw [if_pos g]
      by_cases l : r < r'
      · rw [if_pos l]
        unfold gN
        exact fb_ct_cong fun k hk => by simp [g, l]
      · rw [if_neg l, fb_ct_zero]
        intro k _
        simp [l]
    · rw [if_neg g, fb_ct_zero]
      intro k _
      simp [g]
  rw [fb_sm_cong e, sm_if]
  by_cases l : r < r'
  · rw [if_pos l, if_pos l]; rfl
  · rw [if_neg l, if_neg l, Nat.mul_zero]
theorem firstCol_eq {N a : Nat} {h : mH} {s : Sh} (hN : 10 < N) (w : WS s) (cs : CS h a s) (f : Nat → Bool) : x_X6_firstColumn N a (nI (P5 fun c => decide (c < sW s) && f c)) h = some (fsI f (sW s)) := by
  have w5 := w.2.2.2.1
  unfold x_X6_firstColumn
  refine lpI (fun g (_ : Unit) i => x_X6_firstColumn_2 N a (nI (P5 fun c => decide (c < sW s) && f c)) h g i) (fun k _ => ∀ j, j < k → f j = false) (fun o => o = some (fsI f (sW s))) (sW s) (fun g k x hk hx => ?_) (fun g x hx => ?_) N 0 () (by omega) (by omega) (fun j hj => by omega)
  · show (∃ a', x_X6_firstColumn_2 N a (nI (P5 fun c => decide (c < sW s) && f c)) h (g + 1) (nI k) = x_X6_firstColumn_2 N a (nI (P5 fun c => decide (c < sW s) && f c)) h g (nI (k + 1)) ∧ _) ∨ x_X6_firstColumn_2 N a (nI (P5 fun c => decide (c < sW s) && f c)) h (g + 1) (nI k) = _
    rw [x_X6_firstColumn_2_s, cs.2.1, if_neg (nI_ge hk (by omega)), colBit k (by omega), Option.bind_some]
    by_cases c : f k = true
    · refine Or.inr ?_
      rw [if_neg (fun e => by rw [P5_and (by omega)] at e; simp [hk, c] at e)]
      congr 1
      exact fsI_eq (Or.inr ⟨k, hk, c, rfl, hx⟩)
    · have c' : f k = false := by simpa using c
      refine Or.inl ⟨(), ?_, fun j hj => ?_⟩
      · rw [if_pos ((P5_and (by omega)).mpr (by simp [c'])), nI_1]
      · by_cases d : j = k
        · subst d; exact c'
        · exact hx j (by omega)
  · show x_X6_firstColumn_2 N a (nI (P5 fun c => decide (c < sW s) && f c)) h (g + 1) (nI (sW s)) = _
    rw [x_X6_firstColumn_2_s, cs.2.1, if_pos (nI_le (Nat.le_refl _) (by omega))]
    congr 1
    exact fsI_eq (Or.inl ⟨rfl, hx⟩)
theorem cfirst_some {N a q : Nat} {h : mH} {s : Sh} (hN : 1000 < N) (w : WS s) (cs : CS h a s) (p1 : s.2 = some q) (hq : q < 2 ^ sN s) : x_X6_firstSwitch N a h = some (fsV (swP s) (swV s) (swM s)) := by
  have h4 := w.2.1
  have w5 := w.2.2.2.1
  have pl : mgi h a 6 = shl s q := by rw [← plC_some p1]; exact cs.2.2.2.2.2.2
  unfold x_X6_firstSwitch
  rw [pl, if_pos (shl_pos w hq)]
  refine lpI (fun f (_ : Unit) i => x_X6_firstSwitch_13 N a h f i) (fun k _ => ∀ r r' c d, r' < sH s → c < sW s → d < sW s → r < r' → r < k → swc s q r r' c d = false) (fun o => o = some (fsV (swP s) (swV s) (swM s))) (sH s) (fun f j _ hj hx => ?_) (fun f _ hx => ?_) N 0 () (by omega) (by omega) (fun r r' c d _ _ _ _ h => by omega)
  · show (∃ a' : Unit, x_X6_firstSwitch_13 N a h (f + 1) (nI j) = x_X6_firstSwitch_13 N a h f (nI (j + 1)) ∧ _) ∨ x_X6_firstSwitch_13 N a h (f + 1) (nI j) = _
    rw [x_X6_firstSwitch_13_s, cs.1, if_neg (nI_ge hj (by omega)), mlet_eq, nI_1]
    refine lpI (fun g (_ : Unit) i => x_X6_firstSwitch_25 N (x_X6_firstSwitch_13 N a h f) a (nI j) h g i) (fun k _ => j + 1 ≤ k ∧ ∀ r' c d, r' < k → j < r' → c < sW s → d < sW s → swc s q j r' c d = false) (fun o => (∃ _ : Unit, o = x_X6_firstSwitch_13 N a h f (nI (j + 1)) ∧ ∀ r r' c d, r' < sH s → c < sW s → d < sW s → r < r' → r < j + 1 → swc s q r r' c d = false) ∨ o = some (fsV (swP s) (swV s) (swM s))) (sH s) (fun g k _ hk hy => ?_) (fun g _ hy => ?_) N (j + 1) () (by omega) (by omega) ⟨Nat.le_refl _, fun r' c d h1 h2 => by omega⟩
    · show (∃ _ : Unit, x_X6_firstSwitch_25 N (x_X6_firstSwitch_13 N a h f) a (nI j) h (g + 1) (nI k) = x_X6_firstSwitch_25 N (x_X6_firstSwitch_13 N a h f) a (nI j) h g (nI (k + 1)) ∧ _) ∨ ((∃ _ : Unit, x_X6_firstSwitch_25 N (x_X6_firstSwitch_13 N a h f) a (nI j) h (g + 1) (nI k) = _ ∧ _) ∨ x_X6_firstSwitch_25 N (x_X6_firstSwitch_13 N a h f) a (nI j) h (g + 1) (nI k) = _)
      rw [x_X6_firstSwitch_25_s, cs.1, if_neg (nI_ge hk (by omega)), pl, giving_eq w cs hj hk hq, Option.bind_some, firstCol_eq (by omega) w cs, Option.bind_some, giving_eq w cs hk hj hq, Option.bind_some, firstCol_eq (by omega) w cs, Option.bind_some]
      unfold x_X6_firstSwitch_96
      have next : (∀ c d, c < sW s → d < sW s → swc s q j k c d = false) → j + 1 ≤ k + 1 ∧ ∀ r' c d, r' < k + 1 → j < r' → c < sW s → d < sW s → swc s q j r' c d = false := fun hz => ⟨by omega, fun r' c d h1 h2 h3 h4 => by
        by_cases e : r' = k
        · rw [e]; exact hz c d h3 h4
        · exact hy.2 r' c d (by omega) h2 h3 h4⟩
      rcases fsI_Fst (gv s q j k) (sW s) with ⟨a1, a2⟩ | ⟨c, a1, a2, a3, a4⟩
      · rw [a1, if_pos rfl, nI_1]
        exact Or.inl ⟨(), rfl, next fun c d h3 _ => by unfold swc; rw [a2 c h3]; rfl⟩
      · rw [a3, if_neg (nI_n9 (by omega))]
        rcases fsI_Fst (gv s q k j) (sW s) with ⟨b1, b2⟩ | ⟨d, b1, b2, b3, b4⟩
        · rw [b1, if_pos rfl, nI_1]
          exact Or.inl ⟨(), rfl, next fun c d _ h4 => by unfold swc; rw [b2 d h4, Bool.and_false]⟩
        · rw [b3, if_neg (nI_n9 (by omega))]
          refine Or.inr (Or.inr ?_)
          congr 1
          have jk : j < k := by omega
          obtain ⟨k1, k2, k3, k4⟩ := sw_comp (sH s) (by omega) (sW s) (by omega) j hj k hk c a1 d b1
          have cw : c * sW s + d < sW s * sW s := by
            have := Nat.mul_le_mul_right (sW s) (show c + 1 ≤ sW s from a1)
            rw [Nat.succ_mul] at this
            omega
          have jh : j * sH s + k < sH s * sH s := by
            have := Nat.mul_le_mul_right (sH s) (show j + 1 ≤ sH s from hj)
            rw [Nat.succ_mul] at this
            omega
          refine fsV_eq (Or.inr ⟨(j * sH s + k) * (sW s * sW s) + (c * sW s + d), ?_, ?_, ?_, fun i hi => ?_⟩)
          · unfold swM
            have := Nat.mul_le_mul_right (sW s * sW s) (show j * sH s + k + 1 ≤ sH s * sH s from jh)
            rw [Nat.succ_mul] at this
            rw [Nat.mul_assoc (sH s * sH s)]
            omega
          · unfold swP
            rw [k1, k2, k3, k4, swO_some p1]
            unfold swc
            simp [jk, a2, b2]
          · unfold swV
            rw [k1, k2, k3, k4, show (1000 : Int32) = nI 1000 from rfl, show (100 : Int32) = nI 100 from rfl, show (10 : Int32) = nI 10 from rfl, pk_mul, pk_mul, pk_mul, nI_add, nI_add, nI_add]
          · refine Bool.eq_false_iff.mpr fun hp => ?_
            have iM : i < sH s * sH s * sW s * sW s := by
              have := Nat.mul_le_mul_right (sW s * sW s) (show j * sH s + k + 1 ≤ sH s * sH s from jh)
              rw [Nat.succ_mul] at this
              rw [Nat.mul_assoc (sH s * sH s)]
              omega
            obtain ⟨i0, i1, i2, i3, i4⟩ := sw_reco (sH s) (by omega) (sW s) (by omega) i iM
            unfold swP at hp
            rw [Bool.and_eq_true, decide_eq_true_eq, swO_some p1] at hp
            obtain ⟨hp1, hp2⟩ := hp
            revert i0 i1 i2 i3 i4 hp1 hp2
            generalize i / (sH s * sW s * sW s) = ir
            generalize i / (sW s * sW s) % sH s = is
            generalize i / sW s % sW s = ic
            generalize i % sW s = id
            intro i0 i1 i2 i3 i4 hp1 hp2
            rw [i0] at hi
            have cw' : ic * sW s + id < sW s * sW s := by
              have := Nat.mul_le_mul_right (sW s) (show ic + 1 ≤ sW s from i3)
              rw [Nat.succ_mul] at this
              omega
            rcases lexlt cw' cw hi with l | ⟨l, l'⟩
            · rcases lexlt i2 hk l with u | ⟨u, u'⟩
              · rw [hx ir is ic id i2 i3 i4 hp1 u] at hp2; cases hp2
              · subst u
                rw [hy.2 is ic id u' hp1 i3 i4] at hp2; cases hp2
            · rw [Nat.mul_comm ir, Nat.mul_comm j] at l
              obtain ⟨u, u'⟩ := mul_mod_uniq i2 hk l
              subst u
              subst u'
              unfold swc at hp2
              rw [Bool.and_eq_true] at hp2
              rcases lexlt i4 b1 l' with v | ⟨v, v'⟩
              · rw [a4 ic v] at hp2; cases hp2.1
              · rw [b4 id v'] at hp2; cases hp2.2
    · show (∃ _ : Unit, x_X6_firstSwitch_25 N (x_X6_firstSwitch_13 N a h f) a (nI j) h (g + 1) (nI (sH s)) = _ ∧ _) ∨ _
      rw [x_X6_firstSwitch_25_s, cs.1, if_pos (nI_le (Nat.le_refl _) (by omega)), nI_1]
      refine Or.inl ⟨(), rfl, fun r r' c d h1 h2 h3 h4 h5 => ?_⟩
      by_cases e : r = j
      · subst e; exact hy.2 r' c d h1 h4 h2 h3
      · exact hx r r' c d h1 h2 h3 h4 (by omega)
  · show x_X6_firstSwitch_13 N a h (f + 1) (nI (sH s)) = _
    rw [x_X6_firstSwitch_13_s, cs.1, if_pos (nI_le (Nat.le_refl _) (by omega))]
    congr 1
    refine fsV_eq (Or.inl ⟨rfl, fun i hi => ?_⟩)
    obtain ⟨-, i1, i2, i3, i4⟩ := sw_reco (sH s) (by omega) (sW s) (by omega) i hi
    unfold swP
    rw [swO_some p1]
    by_cases l : i / (sH s * sW s * sW s) < i / (sW s * sW s) % sH s
    · rw [hx _ _ _ _ i2 i3 i4 l i1, Bool.and_false]
    · simp [l]
