/-! loops by a rule -/
theorem lpI {A B : Type} (F : Nat → A → Int32 → Option B) (P : Nat → A → Prop) (Q : Option B → Prop) (n : Nat) (hs : ∀ f k a, k < n → P k a → (∃ a', F (f + 1) a (nI k) = F f a' (nI (k + 1)) ∧ P (k + 1) a') ∨ Q (F (f + 1) a (nI k))) (he : ∀ f a, P n a → Q (F (f + 1) a (nI n))) : ∀ (f k : Nat) (a : A), k ≤ n → n < f + k → P k a → Q (F f a (nI k)) := by
  intro f
  induction f with
  | zero => intro k a h1 h2; omega
  | succ f ih =>
    intro k a h1 h2 p
    by_cases c : k < n
    · rcases hs f k a c p with ⟨a', e, p'⟩ | q
      · rw [e]; exact ih (k + 1) a' (by omega) (by omega) p'
      · exact q
    · have : k = n := by omega
      subst this
      exact he f a p
/-- a loop that only counts up with a value -/
theorem lpV {A B : Type} (F : Nat → A → Int32 → Option B) (v : Nat → A) (n : Nat) (r : Option B) (hs : ∀ f k, k < n → F (f + 1) (v k) (nI k) = F f (v (k + 1)) (nI (k + 1))) (he : ∀ f, F (f + 1) (v n) (nI n) = r) {f : Nat} (hf : n < f) : F f (v 0) (nI 0) = r :=
  lpI F (fun k a => a = v k) (fun o => o = r) n (fun f k a hk e => Or.inl ⟨v (k + 1), by rw [e]; exact hs f k hk, rfl⟩) (fun f a e => by rw [e]; exact he f) f 0 (v 0) (by omega) (by omega) rfl
theorem fold8 (f : Nat → Nat) (x : Nat) : ∀ n, (List.range n).foldl (fun a c => 8 * a + f c) x = 8 ^ n * x + pkS f n
  | 0 => by simp [pkS]
  | n + 1 => by
    rw [List.range_succ, List.foldl_append, fold8 f x n]
    simp only [List.foldl_cons, List.foldl_nil, pkS, Nat.pow_succ]
    rw [Nat.mul_add, Nat.mul_comm (8 ^ n) 8, Nat.mul_assoc]
    omega
theorem fold8s (f : Nat → Nat) (x n : Nat) : (List.range (n + 1)).foldl (fun a c => 8 * a + f c) x = 8 * (List.range n).foldl (fun a c => 8 * a + f c) x + f n := by
  rw [List.range_succ, List.foldl_append]
  rfl
theorem totN_eq (s : Sh) : totN s = 8 ^ sW s * (8 ^ sH s * (8 * sH s + sW s) + pkS (sR s) (sH s)) + pkS (sC s) (sW s) := by
  unfold totN
  rw [fold8, fold8]
/-- a total of a row, of a column, as the class reads it -/
theorem to_row {a r : Nat} {h : mH} {s : Sh} (w : WS s) (cs : CS h a s) (hr : r < sH s) : x_X6_totalOf a 0 (nI r) h = some (nI (sR s r)) := by
  have h4 := w.2.1
  unfold x_X6_totalOf
  rw [if_neg (fun q => q rfl), if_neg (nI_pos (by omega)), if_neg (show ¬ (4 : Int32) ≤ nI r from nI_ge (b := 4) (by omega) (by decide)), mck_ok (vp_in_nI (by omega) (by decide)), nI_clamp (by omega), cs.2.2.1 r hr]
theorem to_col {a c : Nat} {h : mH} {s : Sh} (w : WS s) (cs : CS h a s) (hc : c < sW s) : x_X6_totalOf a 1 (nI c) h = some (nI (sC s c)) := by
  have w5 := w.2.2.2.1
  unfold x_X6_totalOf
  rw [if_pos (by decide), if_neg (nI_pos (by omega)), if_neg (show ¬ (5 : Int32) ≤ nI c from nI_ge (b := 5) (by omega) (by decide)), mck_ok (vp_in_nI (by omega) (by decide)), nI_clamp (by omega), cs.2.2.2.1 c hc]
theorem tot_in {N a n : Nat} {h : mH} {d : Int32} (F : Nat → Nat) (self : Int64 → Int32 → Option Int64) (hN : 10 < N) (hn : n ≤ 5) (ct : x_X6_totalCount a d h = some (nI n)) (tt : ∀ k, k < n → x_X6_totalOf a d (nI k) h = some (nI (F k))) (hF : ∀ k, k < n → F k ≤ 5) (X : Nat) : x_X6_totalsAsNumber_26 N self a d h N (lN X) (0 : Int32) = self (lN ((List.range n).foldl (fun m c => 8 * m + F c) X)) (d + 1) := by
  refine lpV (fun f (x : Int64) i => x_X6_totalsAsNumber_26 N self a d h f x i) (fun k => lN ((List.range k).foldl (fun m c => 8 * m + F c) X)) n _ (fun f k hk => ?_) (fun f => ?_) (by omega)
  · have hx := hF k hk
    show x_X6_totalsAsNumber_26 N self a d h (f + 1) _ (nI k) = x_X6_totalsAsNumber_26 N self a d h f _ (nI (k + 1))
    rw [x_X6_totalsAsNumber_26_s, ct, Option.bind_some, if_neg (nI_ge hk (by omega)), tt k hk, Option.bind_some, nI_l (by omega), show (8 : Int64) = lN 8 from rfl, lN_mul, lN_add, mlet_eq, nI_1]
    simp only [fold8s]
  · show x_X6_totalsAsNumber_26 N self a d h (f + 1) _ (nI n) = _
    rw [x_X6_totalsAsNumber_26_s, ct, Option.bind_some, if_pos (nI_le (Nat.le_refl _) (by omega))]
theorem tot_eq {N a : Nat} {h : mH} {s : Sh} (hN : 10 < N) (cs : CS h a s) (w : WS s) : x_X6_totalsAsNumber N a h = some (lN (totN s)) := by
  have c0 := cs.1
  have c1 := cs.2.1
  have h4 := w.2.1
  have w5 := w.2.2.2.1
  have e0 : x_X6_totalCount a 0 h = some (nI (sH s)) := by unfold x_X6_totalCount; rw [if_neg (fun q => q rfl), c0]
  have e1 : x_X6_totalCount a 1 h = some (nI (sW s)) := by unfold x_X6_totalCount; rw [if_pos (by decide), c1]
  unfold x_X6_totalsAsNumber
  rw [mlet_eq, c0, c1, nI_l (by omega), nI_l (by omega), show (8 : Int64) = lN 8 from rfl, lN_mul, lN_add]
  have b0 := fun self => tot_in (d := 0) (sR s) self hN (by omega) e0 (fun k hk => to_row w cs hk) (fun k hk => by have := w.2.2.2.2.1 k hk; omega) (8 * sH s + sW s)
  have b1 := fun self => tot_in (d := 1) (sC s) self hN w5 e1 (fun k hk => to_col w cs hk) (fun k hk => by have := w.2.2.2.2.2.1 k hk; omega) ((List.range (sH s)).foldl (fun m c => 8 * m + sR s c) (8 * sH s + sW s))
  obtain ⟨M, rfl⟩ : ∃ M, N = M + 3 := ⟨N - 3, by omega⟩
  rw [x_X6_totalsAsNumber_18_s, if_neg (by decide), b0, x_X6_totalsAsNumber_18_s, if_neg (by decide), show (0 : Int32) + 1 = 1 from rfl, b1, x_X6_totalsAsNumber_18_s, if_pos (by decide)]
  rfl
theorem mul_mod_uniq {p x y a b : Nat} (ha : a < p) (hb : b < p) (e : p * x + a = p * y + b) : x = y ∧ a = b := by
  have h1 : (p * x + a) / p = x := by rw [Nat.mul_add_div (by omega), Nat.div_eq_of_lt ha]; omega
  have h2 : (p * y + b) / p = y := by rw [Nat.mul_add_div (by omega), Nat.div_eq_of_lt hb]; omega
  have h3 : x = y := by rw [← h1, ← h2, e]
  subst h3
  exact ⟨rfl, by omega⟩
theorem totN_bd {s : Sh} (w : WS s) : 8 ^ (sH s + sW s + 1) ≤ totN s ∧ totN s < 8 ^ (sH s + sW s + 2) := by
  have r8 : ∀ c, c < sH s → sR s c < 8 := fun c hc => by have := w.2.2.2.2.1 c hc; have := w.2.2.2.1; omega
  have c8 : ∀ c, c < sW s → sC s c < 8 := fun c hc => by have := w.2.2.2.2.2.1 c hc; have := w.2.1; omega
  have p1 := pkS_lt r8
  have p2 := pkS_lt c8
  have h1 := w.1
  have h4 := w.2.1
  have w5 := w.2.2.2.1
  rw [totN_eq]
  have e1 : 8 ^ (sH s + sW s + 1) = 8 ^ sW s * (8 ^ sH s * 8) := by
    rw [show sH s + sW s + 1 = sW s + (sH s + 1) by omega, Nat.pow_add, Nat.pow_succ]
  have e2 : 8 ^ (sH s + sW s + 2) = 8 ^ sW s * (8 ^ sH s * 64) := by
    rw [show sH s + sW s + 2 = sW s + (sH s + 2) by omega, Nat.pow_add, Nat.pow_add]
  rw [e1, e2]
  constructor
  · refine Nat.le_trans (Nat.mul_le_mul_left _ ?_) (Nat.le_add_right _ _)
    exact Nat.le_trans (Nat.mul_le_mul_left _ (by omega)) (Nat.le_add_right _ _)
  · have : 8 ^ sH s * (8 * sH s + sW s) + pkS (sR s) (sH s) + 1 ≤ 8 ^ sH s * 64 := by
      have : 8 ^ sH s * (8 * sH s + sW s) + 8 ^ sH s ≤ 8 ^ sH s * 64 := by
        rw [← Nat.mul_succ]
        exact Nat.mul_le_mul_left _ (by omega)
      omega
    have q := Nat.mul_le_mul_left (8 ^ sW s) this
    rw [Nat.mul_succ] at q
    omega
theorem totN_lt {s : Sh} (w : WS s) : totN s < 2 ^ 33 := by
  refine Nat.lt_of_lt_of_le (totN_bd w).2 ?_
  have : 8 ^ (sH s + sW s + 2) ≤ 8 ^ 11 := Nat.pow_le_pow_right (by decide) (by have := w.2.1; have := w.2.2.2.1; omega)
  omega
theorem totN_inj {s s' : Sh} (w : WS s) (w' : WS s') (e : totN s = totN s') : sH s = sH s' ∧ sW s = sW s' ∧ (∀ r, r < sH s → sR s r = sR s' r) ∧ ∀ c, c < sW s → sC s c = sC s' c := by
  have b1 := totN_bd w
  have b2 := totN_bd w'
  have hs : sH s + sW s = sH s' + sW s' := by
    rcases Nat.lt_trichotomy (sH s + sW s) (sH s' + sW s') with q | q | q
    · have := Nat.pow_le_pow_right (n := 8) (by decide) (show sH s + sW s + 2 ≤ sH s' + sW s' + 1 by omega)
      omega
    · exact q
    · have := Nat.pow_le_pow_right (n := 8) (by decide) (show sH s' + sW s' + 2 ≤ sH s + sW s + 1 by omega)
      omega
  have r8 : ∀ c, c < sH s → sR s c < 8 := fun c hc => by have := w.2.2.2.2.1 c hc; have := w.2.2.2.1; omega
  have c8 : ∀ c, c < sW s → sC s c < 8 := fun c hc => by have := w.2.2.2.2.2.1 c hc; have := w.2.1; omega
  have r8' : ∀ c, c < sH s' → sR s' c < 8 := fun c hc => by have := w'.2.2.2.2.1 c hc; have := w'.2.2.2.1; omega
  have c8' : ∀ c, c < sW s' → sC s' c < 8 := fun c hc => by have := w'.2.2.2.2.2.1 c hc; have := w'.2.1; omega
  have sp : ∀ t : Sh, totN t = 8 ^ (sH t + sW t) * (8 * sH t + sW t) + (8 ^ sW t * pkS (sR t) (sH t) + pkS (sC t) (sW t)) := by
    intro t
    rw [totN_eq, Nat.pow_add, Nat.mul_add]
    rw [show 8 ^ sW t * (8 ^ sH t * (8 * sH t + sW t)) = 8 ^ sH t * 8 ^ sW t * (8 * sH t + sW t) by rw [← Nat.mul_assoc, Nat.mul_comm (8 ^ sW t) (8 ^ sH t)]]
    omega
  have lt : ∀ t : Sh, pkS (sR t) (sH t) < 8 ^ sH t → pkS (sC t) (sW t) < 8 ^ sW t → 8 ^ sW t * pkS (sR t) (sH t) + pkS (sC t) (sW t) < 8 ^ (sH t + sW t) := by
    intro t q1 q2
    have := Nat.mul_le_mul_left (8 ^ sW t) (Nat.succ_le_of_lt q1)
    rw [Nat.mul_succ] at this
    rw [Nat.pow_add, Nat.mul_comm (8 ^ sH t)]
    omega
  have l1 := lt s (pkS_lt r8) (pkS_lt c8)
  have l2 := lt s' (pkS_lt r8') (pkS_lt c8')
  rw [sp s, sp s', ← hs] at e
  rw [← hs] at l2
  obtain ⟨u1, u2⟩ := mul_mod_uniq l1 l2 e
  have eh : sH s = sH s' ∧ sW s = sW s' := by
    have := w.2.2.2.1
    have := w'.2.2.2.1
    omega
  refine ⟨eh.1, eh.2, ?_⟩
  rw [← eh.1, ← eh.2] at u2
  rw [← eh.1] at r8'
  rw [← eh.2] at c8'
  obtain ⟨u3, u4⟩ := mul_mod_uniq (pkS_lt c8) (pkS_lt c8') u2
  exact ⟨(pkS_inj r8 r8').mp u3, (pkS_inj c8 c8').mp u4⟩
/-! five bits -/
def P5 (f : Nat → Bool) : Nat := (if f 0 then 16 else 0) + ((if f 1 then 8 else 0) + ((if f 2 then 4 else 0) + ((if f 3 then 2 else 0) + (if f 4 then 1 else 0))))
theorem P5_dec : ∀ a b c d e : Bool, ∀ i, i < 5 → ((if a then 16 else 0) + ((if b then 8 else 0) + ((if c then 4 else 0) + ((if d then 2 else 0) + (if e then 1 else 0))))).testBit i = [e, d, c, b, a].getD i false := by decide +kernel
theorem P5_lt (f : Nat → Bool) : P5 f < 32 := by
  unfold P5
  split <;> split <;> split <;> split <;> split <;> omega
theorem P5_bit (f : Nat → Bool) (i : Nat) : (P5 f).testBit i = (decide (i < 5) && f (4 - i)) := by
  by_cases h : i < 5
  · have := P5_dec (f 0) (f 1) (f 2) (f 3) (f 4) i h
    unfold P5
    rw [this]
    rcases (by omega : i = 0 ∨ i = 1 ∨ i = 2 ∨ i = 3 ∨ i = 4) with e | e | e | e | e <;> subst e <;> simp
  · rw [Nat.testBit_lt_two_pow (Nat.lt_of_lt_of_le (P5_lt f) (Nat.pow_le_pow_right (n := 2) (by decide) (show 5 ≤ i by omega)))]
    simp [h]
theorem P5_congr {f g : Nat → Bool} (h : ∀ c, c < 5 → f c = g c) : P5 f = P5 g := by
  unfold P5
  rw [h 0 (by decide), h 1 (by decide), h 2 (by decide), h 3 (by decide), h 4 (by decide)]
theorem P5_or {f : Nat → Bool} {k : Nat} (hk : k < 5) : P5 f ||| 2 ^ (4 - k) = P5 (fun c => f c || c == k) := by
  refine Nat.eq_of_testBit_eq fun i => ?_
  rw [fb_bit_set, P5_bit, P5_bit]
  by_cases h : i < 5
  · have : (4 - i == k) = decide (i = 4 - k) := by
      rw [Bool.eq_iff_iff]; simp; omega
    simp [h, this]
  · have : ¬ i = 4 - k := by omega
    simp [h, this]
theorem colBit (c : Nat) (hc : c < 5) : x_X8_columnBit (nI c) = some (nI (2 ^ (4 - c))) := by
  have : ∀ c, c < 5 → (1 : Int32) <<< (((4 : Int32) - nI c) &&& 31) = nI (2 ^ (4 - c)) := by decide +kernel
  unfold x_X8_columnBit
  rw [this c hc]
theorem cw_eq {N a b : Nat} {h : mH} {s : Sh} (hN : 10 < N) (cs : CS h a s) (w : WS s) (hb : b < 3) : x_X1_columnsWith N a (nI (2 ^ b)) h = some (nI (P5 fun c => decide (c < sW s) && (sC s c).testBit b)) := by
  have c1 := cs.2.1
  have w5 := w.2.2.2.1
  unfold x_X1_columnsWith
  refine lpV (fun f (x : Int32) i => x_X1_columnsWith_4 N a (nI (2 ^ b)) h f x i) (fun k => nI (P5 fun c => decide (c < k) && (sC s c).testBit b)) (sW s) _ (fun f k hk => ?_) (fun f => ?_) (by omega)
  · show x_X1_columnsWith_4 N a (nI (2 ^ b)) h (f + 1) _ (nI k) = x_X1_columnsWith_4 N a (nI (2 ^ b)) h f _ (nI (k + 1))
    have kb := w.2.2.2.2.2.1 k hk
    have h4 := w.2.1
    rw [x_X1_columnsWith_4_s, c1, if_neg (nI_ge hk (by omega)), to_col w cs hk, Option.bind_some]
    unfold x_X1_columnsWith_30
    by_cases c : (sC s k).testBit b
    · rw [if_neg (fun q => by rw [fa_bit (by omega)] at q; rw [c] at q; cases q), colBit k (by omega)]
      simp only [Option.bind_some, mlet_eq, nI_1]
      rw [fa_or, P5_or (by omega)]
      congr 2
      refine P5_congr fun i hi => ?_
      by_cases q : i = k
      · subst q; simp [c]
      · have : (i < k + 1) ↔ (i < k) := by omega
        simp [this, q]
    · have c' : (sC s k).testBit b = false := by simpa using c
      rw [if_pos ((fa_bit (by omega)).mpr c'), nI_1]
      congr 2
      refine P5_congr fun i hi => ?_
      by_cases q : i = k
      · subst q; simp [c']
      · have : (i < k + 1) ↔ (i < k) := by omega
        simp [this]
  · show x_X1_columnsWith_4 N a (nI (2 ^ b)) h (f + 1) _ (nI (sW s)) = _
    rw [x_X1_columnsWith_4_s, c1, if_pos (nI_le (Nat.le_refl _) (by omega))]
