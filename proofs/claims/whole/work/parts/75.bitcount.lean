/-! Integer.bitCount -/
theorem ush_nI {n k : Nat} (hn : n < 2 ^ 31) (hk : k < 32) : xushr (nI n) (nI k) = nI (n / 2 ^ k) := by
  unfold xushr
  refine b_ext fun i hi => ?_
  rw [b_ushr k hk, bt_nI _ i hi, Nat.testBit_div_two_pow]
  by_cases c : k + i < 32
  · rw [bt_nI n _ c]
    congr 1
    omega
  · rw [b_big (by omega)]
    symm
    apply Nat.testBit_lt_two_pow
    exact Nat.lt_of_lt_of_le hn (Nat.pow_le_pow_right (by decide) (by omega))
theorem and2 {a b m c : Nat} (hb : b < 2 ^ 8) (hc : c < 2 ^ 8) : (2 ^ 8 * a + b) &&& (2 ^ 8 * m + c) = 2 ^ 8 * (a &&& m) + (b &&& c) := by
  refine Nat.eq_of_testBit_eq fun i => ?_
  rw [Nat.testBit_and, Nat.testBit_two_pow_mul_add _ hb, Nat.testBit_two_pow_mul_add _ hc, Nat.testBit_two_pow_mul_add _ (Nat.lt_of_le_of_lt Nat.and_le_left hb)]
  split <;> rw [Nat.testBit_and]
theorem and3 {p q r P Q R : Nat} (hq : q < 256) (hr : r < 256) (hQ : Q < 256) (hR : R < 256) : (256 * (256 * p + q) + r) &&& (256 * (256 * P + Q) + R) = 256 * (256 * (p &&& P) + (q &&& Q)) + (r &&& R) := by
  rw [show (256 : Nat) = 2 ^ 8 from rfl, and2 hr hR, and2 hq hQ]
def q1 (b : Nat) : Nat := (b / 2) &&& 85
def q2 (b : Nat) : Nat := b - q1 b
def q3 (b : Nat) : Nat := (q2 b &&& 51) + ((q2 b / 4) &&& 51)
theorem q1a : ∀ b, b < 256 → ∀ e, e < 2 → (b / 2 + 128 * e) &&& 85 = q1 b ∧ q1 b ≤ b := by decide +kernel
theorem q1b : ∀ b, b < 256 → (b / 2) &&& 21845 = q1 b := by decide +kernel
theorem q2a : ∀ c, c < 256 → ∀ e, e < 4 → (c / 4 + 64 * e) &&& 51 = (c / 4) &&& 51 := by decide +kernel
theorem q2b : ∀ c, c < 256 → (c / 4) &&& 13107 = (c / 4) &&& 51 ∧ c &&& 13107 = c &&& 51 := by decide +kernel
theorem q3a : ∀ b, b < 256 → q3 b % 16 ≤ 4 ∧ q3 b / 16 ≤ 4 ∧ bc b 8 ≤ 8 := by decide +kernel
theorem q3b : ∀ b, b < 256 → ∀ e, e < 5 → (q3 b + q3 b / 16 + 16 * e) &&& 15 = bc b 8 := by decide +kernel
theorem q3c : ∀ b, b < 256 → (q3 b + q3 b / 16) &&& 3855 = bc b 8 := by decide +kernel
theorem bc24 (a b c : Nat) (ha : a < 256) (hb : b < 256) : bc (256 * (256 * c + b) + a) 24 = bc a 8 + bc b 8 + bc c 8 := by
  unfold bc
  rw [show 24 = 8 + (8 + 8) from rfl, fb_ct_split, fb_ct_split, ← Nat.add_assoc]
  congr 1
  · congr 1
    · refine fb_ct_cong fun k hk => ?_
      rw [show (256 : Nat) = 2 ^ 8 from rfl, Nat.testBit_two_pow_mul_add _ ha, if_pos hk]
    · refine fb_ct_cong fun k hk => ?_
      rw [show (256 : Nat) = 2 ^ 8 from rfl, Nat.testBit_two_pow_mul_add _ ha, if_neg (by omega), Nat.testBit_two_pow_mul_add _ hb, if_pos (by omega)]
      congr 1
      omega
  · refine fb_ct_cong fun k hk => ?_
    rw [show (256 : Nat) = 2 ^ 8 from rfl, Nat.testBit_two_pow_mul_add _ ha, if_neg (by omega), Nat.testBit_two_pow_mul_add _ hb, if_neg (by omega)]
    congr 1
    omega
theorem bcnt3 {a b c : Nat} (ha : a < 256) (hb : b < 256) (hc : c < 256) : x_J6_bitCount_0f7a4 (nI (256 * (256 * c + b) + a)) = some (nI (bc a 8 + bc b 8 + bc c 8)) := by
  have A1 := q1a a ha (b % 2) (by omega)
  have B1 := q1a b hb (c % 2) (by omega)
  have C1 := q1a c hc 0 (by omega)
  have C1' := q1b c hc
  unfold x_J6_bitCount_0f7a4
  have e1 : nI (256 * (256 * c + b) + a) - (xushr (nI (256 * (256 * c + b) + a)) (1 : Int32) &&& (1431655765 : Int32)) = nI (256 * (256 * q2 c + q2 b) + q2 a) := by
    rw [show (1 : Int32) = nI 1 from rfl, ush_nI (by omega) (by decide), show (1431655765 : Int32) = nI (256 * (256 * 21845 + 85) + 85) from rfl, fa_and]
    rw [show (256 * (256 * c + b) + a) / 2 ^ 1 = 256 * (256 * (c / 2) + (b / 2 + 128 * (c % 2))) + (a / 2 + 128 * (b % 2)) by omega]
    rw [and3 (by omega) (by omega) (by decide) (by decide), A1.1, B1.1, C1', pk_sub (by omega)]
    congr 1
    unfold q2
    omega
  have a2 : q2 a < 256 := by unfold q2; omega
  have b2 : q2 b < 256 := by unfold q2; omega
  have c2 : q2 c < 256 := by unfold q2; omega
  have A2 := q2a (q2 a) a2 (q2 b % 4) (by omega)
  have B2 := q2a (q2 b) b2 (q2 c % 4) (by omega)
  have C2 := q2b (q2 c) c2
  rw [mlet_eq, e1]
  have a51 : ∀ x, x &&& 51 ≤ 51 := fun x => Nat.and_le_right
  have e2 : (nI (256 * (256 * q2 c + q2 b) + q2 a) &&& (858993459 : Int32)) + (xushr (nI (256 * (256 * q2 c + q2 b) + q2 a)) (2 : Int32) &&& (858993459 : Int32)) = nI (256 * (256 * q3 c + q3 b) + q3 a) := by
    rw [show (2 : Int32) = nI 2 from rfl, ush_nI (by omega) (by decide), show (858993459 : Int32) = nI (256 * (256 * 13107 + 51) + 51) from rfl, fa_and, fa_and]
    rw [show (256 * (256 * q2 c + q2 b) + q2 a) / 2 ^ 2 = 256 * (256 * (q2 c / 4) + (q2 b / 4 + 64 * (q2 c % 4))) + (q2 a / 4 + 64 * (q2 b % 4)) by omega]
    rw [and3 (by omega) (by omega) (by decide) (by decide), and3 (by omega) (by omega) (by decide) (by decide), A2, B2, C2.1, C2.2, nI_add]
    congr 1
    unfold q3
    omega
  rw [mlet_eq, e2]
  have A3 := q3a a ha
  have B3 := q3a b hb
  have C3 := q3a c hc
  have A4 := q3b a ha (q3 b % 16) (by omega)
  have B4 := q3b b hb (q3 c % 16) (by omega)
  have C4 := q3c c hc
  have e3 : (nI (256 * (256 * q3 c + q3 b) + q3 a) + xushr (nI (256 * (256 * q3 c + q3 b) + q3 a)) (4 : Int32)) &&& (252645135 : Int32) = nI (256 * (256 * bc c 8 + bc b 8) + bc a 8) := by
    rw [show (4 : Int32) = nI 4 from rfl, ush_nI (by omega) (by decide), show (252645135 : Int32) = nI (256 * (256 * 3855 + 15) + 15) from rfl, nI_add, fa_and]
    rw [show 256 * (256 * q3 c + q3 b) + q3 a + (256 * (256 * q3 c + q3 b) + q3 a) / 2 ^ 4 = 256 * (256 * (q3 c + q3 c / 16) + (q3 b + q3 b / 16 + 16 * (q3 c % 16))) + (q3 a + q3 a / 16 + 16 * (q3 b % 16)) by omega]
    rw [and3 (by omega) (by omega) (by decide) (by decide), A4, B4, C4]
  rw [mlet_eq, e3, show (8 : Int32) = nI 8 from rfl, ush_nI (by omega) (by decide), nI_add, mlet_eq, show (16 : Int32) = nI 16 from rfl, ush_nI (by omega) (by decide), nI_add, mlet_eq, show (63 : Int32) = nI (2 ^ 6 - 1) from rfl, fa_mask]
  congr 2
  have x8 := A3.2.2
  have y8 := B3.2.2
  have z8 := C3.2.2
  clear A4 B4 C4 A3 B3 C3 e3 e2 e1 A2 B2 C2 A1 B1 C1 C1' a51
  generalize bc a 8 = x at x8 ⊢
  generalize bc b 8 = y at y8 ⊢
  generalize bc c 8 = z at z8 ⊢
  have s1 : (256 * (256 * z + y) + x) / 2 ^ 8 = 256 * z + y := by omega
  rw [s1]
  have s2 : (256 * (256 * z + y) + x + (256 * z + y)) / 2 ^ 16 = z := by omega
  rw [s2]
  omega
theorem bcnt {q n : Nat} (h : q < 2 ^ n) (hn : n ≤ 20) : x_J6_bitCount_0f7a4 (nI q) = some (nI (bc q n)) := by
  have h20 : q < 2 ^ 20 := Nat.lt_of_lt_of_le h (Nat.pow_le_pow_right (by decide) hn)
  have e : q = 256 * (256 * (q / 65536) + q / 256 % 256) + q % 256 := by omega
  have := bcnt3 (a := q % 256) (b := q / 256 % 256) (c := q / 65536) (by omega) (by omega) (by omega)
  rw [← bc24 _ _ _ (by omega) (by omega), ← e, bc_small h (by omega)] at this
  exact this
