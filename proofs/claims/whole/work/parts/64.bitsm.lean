/-! bits of small numbers; the model's small functions -/
theorem bt_nI (q j : Nat) (hj : j < 32) : bt (nI q) j = q.testBit j := by
  unfold bt nI
  show (BitVec.ofNat 32 q).getLsbD j = q.testBit j
  rw [BitVec.getLsbD_ofNat]
  simp [hj]
theorem bt_1 (j : Nat) (hj : j < 32) : bt 1 j = decide (j = 0) := by
  have : ∀ j, j < 32 → bt 1 j = decide (j = 0) := by decide +kernel
  exact this j hj
theorem and_one (y : Int32) : y &&& 1 = if bt y 0 then 1 else 0 := by
  refine b_ext fun i hi => ?_
  rw [b_and, bt_1 i hi]
  by_cases e : i = 0
  · subst e
    by_cases c : bt y 0 = true
    · simp [c, bt_1]
    · simp only [Bool.not_eq_true] at c; simp [c, b_0]
  · simp only [e, decide_false, Bool.and_false]
    split
    · rw [bt_1 i hi]; simp [e]
    · rw [b_0]
theorem sar_bit (q k : Nat) (hk : k < 32) : (nI q >>> (nI k &&& 31)) &&& 1 = if q.testBit k then 1 else 0 := by
  rw [and_one, b_sshr k hk _ (by decide), if_pos (show k + 0 < 32 by omega), bt_nI q _ (show k + 0 < 32 by omega)]
  rfl
theorem has_eq (q k : Nat) (hk : k < 32) : x_X9_has (nI q) (nI k) = some (if q.testBit k then 1 else 0) := by
  unfold x_X9_has
  rw [sar_bit q k hk]
  by_cases c : q.testBit k = true
  · simp [c]
  · simp only [Bool.not_eq_true] at c; simp [c]
/-- how many of the first n bits are set -/
def bc (q n : Nat) : Nat := fb_ct (fun j => q.testBit j) n
theorem ones_loop (N q : Nat) : ∀ (d k acc f : Nat), k + d = 20 → d < f → x_X9_ones_4 N (nI q) f (nI acc) (nI k) = some (nI (acc + (bc q 20 - bc q k))) := by
  intro d
  induction d with
  | zero =>
    intro k acc f hk hf
    obtain ⟨f, rfl⟩ : ∃ f', f = f' + 1 := ⟨f - 1, by omega⟩
    have : k = 20 := by omega
    subst this
    rw [x_X9_ones_4_s, if_pos (by decide)]
    simp
  | succ d ih =>
    intro k acc f hk hf
    obtain ⟨f, rfl⟩ : ∃ f', f = f' + 1 := ⟨f - 1, by omega⟩
    rw [x_X9_ones_4_s, if_neg (show ¬ (20 : Int32) ≤ nI k from nI_ge (b := 20) (by omega) (by decide)), mlet_eq, sar_bit q k (by omega), nI_1]
    have hb : bc q (k + 1) = bc q k + (if q.testBit k then 1 else 0) := fb_ct_succ _ k
    have hle : bc q (k + 1) ≤ bc q 20 := fb_ct_mono _ (by omega)
    by_cases c : q.testBit k = true
    · rw [if_pos c, nI_1, ih (k + 1) (acc + 1) f (by omega) (by omega)]
      rw [if_pos c] at hb
      congr 2; omega
    · rw [if_neg c, show (0 : Int32) = nI 0 from rfl, nI_add, ih (k + 1) (acc + 0) f (by omega) (by omega)]
      rw [if_neg c] at hb
      congr 2; omega
theorem ones_eq {N : Nat} (hN : 20 < N) (q : Nat) : x_X9_ones N (nI q) = some (nI (bc q 20)) := by
  unfold x_X9_ones
  have := ones_loop N q 20 0 0 N (by omega) hN
  simp only [bc, fb_ct, Nat.zero_add, Nat.sub_zero] at this ⊢
  exact this
theorem bc_small {q n m : Nat} (hq : q < 2 ^ n) (hnm : n ≤ m) : bc q m = bc q n := by
  induction m with
  | zero => have : n = 0 := by omega
            subst this; rfl
  | succ m ih =>
    by_cases e : n = m + 1
    · rw [e]
    · have hb : bc q (m + 1) = bc q m + (if q.testBit m then 1 else 0) := fb_ct_succ _ m
      have hlt : q < 2 ^ m := Nat.lt_of_lt_of_le hq (Nat.pow_le_pow_right (by decide) (by omega))
      rw [hb, Nat.testBit_lt_two_pow hlt, ih (by omega)]
      simp
/-! pages -/
theorem WS.n20 {s : Sh} (w : WS s) : 1 ≤ sN s ∧ sN s ≤ 20 := by
  obtain ⟨h1, h2, h3, h4, -⟩ := w
  unfold sN
  constructor
  · exact Nat.mul_pos h1 h3
  · exact Nat.mul_le_mul h2 h4
theorem cells_eq {h : mH} {p : Nat} {s : Sh} (m : MS h p 0 s) : x_X9_cells p h = some (nI (sN s)) := by
  unfold x_X9_cells sN
  have h0 := m.1
  have h1 := m.2.1
  rw [h0, show mgi h p 1 = nI (sW s) from h1, pk_mul]
theorem sub1 {a b : Nat} (h : b + 1 ≤ a) : nI a - 1 - nI b = nI (a - 1 - b) := by
  rw [show (1 : Int32) = nI 1 from rfl, pk_sub (by omega), pk_sub (by omega)]
theorem isYes_eq {h : mH} {p : Nat} {s : Sh} (m : MS h p 0 s) (w : WS s) (q k : Nat) (hk : k < sN s) : x_X9_isYes p (nI q) (nI k) h = some (if cb s q k then 1 else 0) := by
  unfold x_X9_isYes
  have := w.n20
  rw [cells_eq m, Option.bind_some, sub1 (by omega), has_eq q _ (by omega), Option.bind_some]
  unfold mzc cb
  by_cases c : q.testBit (sN s - 1 - k) = true
  · simp [c]
  · simp only [Bool.not_eq_true] at c; simp [c]
theorem in_nI (x : Int32) (n : Nat) (hn : n < 2 ^ 31) : (0 ≤ x ∧ x ≤ nI n) ↔ ∃ k, k ≤ n ∧ x = nI k := by
  constructor
  · intro ⟨h1, h2⟩
    obtain ⟨j, hj, rfl⟩ := nI_of (x := x) (fun q => by rw [fa_lt] at q; rw [fa_le] at h1; simp at q h1; omega)
    exact ⟨j, (nI_leI hj hn).mp h2, rfl⟩
  · rintro ⟨k, hk, rfl⟩
    exact ⟨nI_pos' (by omega), nI_le hk hn⟩
theorem noCell_eq {h : mH} {s : Sh} (m : MS h 85 0 s) (w : WS s) (x : Int32) : x_X9_noCell x h = some (if ∃ k, k < sN s ∧ x = nI k then 0 else 1) := by
  unfold x_X9_noCell
  have := w.n20
  rw [cells_eq m, Option.bind_some, show (1 : Int32) = nI 1 from rfl, pk_sub (by omega), show (0 : Int64) = (0 : Int32).toInt64 by decide, xin32, Option.bind_some]
  have e : (0 ≤ x ∧ x ≤ nI (sN s - 1)) ↔ ∃ k, k < sN s ∧ x = nI k := by
    rw [in_nI x _ (by omega)]
    constructor
    · rintro ⟨k, h1, h2⟩; exact ⟨k, by omega, h2⟩
    · rintro ⟨k, h1, h2⟩; exact ⟨k, by omega, h2⟩
  by_cases c : ∃ k, k < sN s ∧ x = nI k
  · simp [e.mpr c, c]
  · have q : ¬ (0 ≤ x ∧ x ≤ nI (sN s - 1)) := fun q => c (e.mp q)
    rw [if_neg q, if_neg c]
    rfl
/-- lay: 32 numbers copied -/
theorem lay_loop (N a b : Nat) (hab : a ≠ b) : ∀ (d k f : Nat) (h : mH), k + d = 32 → d < f → ∃ h', x_X9_lay_2 N a b f (nI k) h = some h' ∧ (∀ j, k ≤ j → j < 32 → mgi h' a j = mgi h b j) ∧ (∀ c j, (c ≠ a ∨ j < k ∨ 32 ≤ j) → mgi h' c j = mgi h c j) ∧ ∀ c j, mgl h' c j = mgl h c j := by
  intro d
  induction d with
  | zero =>
    intro k f h hk hf
    obtain ⟨f, rfl⟩ : ∃ f', f = f' + 1 := ⟨f - 1, by omega⟩
    have : k = 32 := by omega
    subst this
    refine ⟨h, ?_, fun j h1 h2 => by omega, fun _ _ _ => rfl, fun _ _ => rfl⟩
    rw [x_X9_lay_2_s, if_pos (by decide)]
  | succ d ih =>
    intro k f h hk hf
    obtain ⟨f, rfl⟩ : ∃ f', f = f' + 1 := ⟨f - 1, by omega⟩
    rw [x_X9_lay_2_s, if_neg (show ¬ (32 : Int32) ≤ nI k from nI_ge (b := 32) (by omega) (by decide)), mck_ok (vp_in_nI (by omega) (by decide)), mck_ok (vp_in_nI (by omega) (by decide)), mlet_eq, nI_1, nI_clamp (by omega)]
    obtain ⟨h', e1, e2, e3, e4⟩ := ih (k + 1) f (msi h a k (mgi h b k)) (by omega) (by omega)
    refine ⟨h', e1, fun j h1 h2 => ?_, fun c j hc => ?_, fun c j => by rw [e4]; rfl⟩
    · by_cases e : j = k
      · subst e
        rw [e3 a j (Or.inr (Or.inl (by omega))), mgi_msi, if_pos ⟨rfl, rfl⟩]
      · rw [e2 j (by omega) h2, mgi_msi, if_neg (fun q => hab q.1.symm)]
    · rw [e3 c j (by omega), mgi_msi, if_neg (by omega)]
theorem lay_eq {N a b : Nat} (hN : 32 < N) (hab : a ≠ b) (h : mH) : ∃ h', x_X9_lay N a b h = some h' ∧ (∀ j, j < 32 → mgi h' a j = mgi h b j) ∧ (∀ c j, c ≠ a → mgi h' c j = mgi h c j) ∧ ∀ c j, mgl h' c j = mgl h c j := by
  obtain ⟨h', e1, e2, e3, e4⟩ := lay_loop N a b hab 32 0 N h (by omega) hN
  exact ⟨h', e1, fun j hj => e2 j (by omega) hj, fun c j hc => e3 c j (Or.inl hc), e4⟩
