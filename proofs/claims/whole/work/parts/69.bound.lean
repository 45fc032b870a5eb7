/-! never more than 310 answers -/
section EV
variable (X : Nat)
def ev (l : List Nat) : Nat := (l.map fun e => X ^ e).sum
theorem ev_cons (a : Nat) (l : List Nat) : ev X (a :: l) = X ^ a + ev X l := by simp [ev]
theorem ev_app (l m : List Nat) : ev X (l ++ m) = ev X l + ev X m := by simp [ev, List.sum_append]
theorem ev_map (a : Nat) (l : List Nat) : ev X (l.map (a + ·)) = X ^ a * ev X l := by
  induction l with
  | nil => simp [ev]
  | cons b l ih => rw [List.map_cons, ev_cons, ev_cons, ih, Nat.mul_add, Nat.pow_add]
theorem ev_flat (f : Nat → List Nat) (g : Nat → Nat) (k : Nat) (hf : ∀ a, ev X (f a) = X ^ g a * k) (l : List Nat) : ev X (l.flatMap f) = ev X (l.map g) * k := by
  induction l with
  | nil => simp [ev]
  | cons a l ih => rw [List.flatMap_cons, ev_app, List.map_cons, ev_cons, ih, hf, Nat.add_mul]
theorem ev_digit (hX : 0 < X) (T : Nat) : ∀ l : List Nat, ∃ lo hi, ev X l = lo + (l.filter (· == T)).length * X ^ T + X ^ (T + 1) * hi ∧ lo * X ≤ l.length * X ^ T
  | [] => ⟨0, 0, by simp [ev], by simp⟩
  | z :: l => by
    obtain ⟨lo, hi, e1, e2⟩ := ev_digit hX T l
    rw [ev_cons, e1, List.length_cons, Nat.add_mul]
    rcases Nat.lt_trichotomy z T with h | h | h
    · refine ⟨X ^ z + lo, hi, ?_, ?_⟩
      · have : (z == T) = false := by simp; omega
        rw [List.filter_cons, this]; simp; omega
      · have : X ^ z * X ≤ X ^ T := by rw [← Nat.pow_succ]; exact Nat.pow_le_pow_right hX h
        rw [Nat.add_mul]; omega
    · subst h
      refine ⟨lo, hi, ?_, by omega⟩
      rw [List.filter_cons]; simp [Nat.add_mul]; omega
    · obtain ⟨d, rfl⟩ : ∃ d, z = T + 1 + d := ⟨z - T - 1, by omega⟩
      refine ⟨lo, X ^ d + hi, ?_, by omega⟩
      have : (T + 1 + d == T) = false := by simp; omega
      rw [List.filter_cons, this, Nat.pow_add X (T + 1) d, Nat.mul_add]
      simp; omega
def oX : Nat → Nat
  | 0 => 0
  | D + 1 => oX D + X ^ D
theorem oX_mul (hX : 0 < X) : ∀ D, oX X D * (X - 1) + 1 = X ^ D
  | 0 => by simp [oX]
  | D + 1 => by
    have ih := oX_mul hX D
    have e : X ^ (D + 1) = X ^ D * (X - 1) + X ^ D := by
      rw [Nat.pow_succ, ← Nat.mul_succ]; congr 1; omega
    rw [e]
    simp only [oX, Nat.add_mul]
    omega
theorem oX_split (T : Nat) : ∀ d, ∃ o, oX X (T + 1 + d) = oX X T + X ^ T + X ^ (T + 1) * o
  | 0 => ⟨0, by simp [oX]⟩
  | d + 1 => by
    obtain ⟨o, ho⟩ := oX_split T d
    refine ⟨o + X ^ d, ?_⟩
    show oX X (T + 1 + d) + X ^ (T + 1 + d) = _
    rw [ho, Nat.pow_add X (T + 1) d, Nat.mul_add]
    omega
end EV
theorem oX_closed (D : Nat) : oX (2 ^ 16) D = ((2 ^ 16) ^ D - 1) / (2 ^ 16 - 1) := by
  have h := oX_mul (2 ^ 16) (by decide) D
  rw [← h, Nat.add_sub_cancel, Nat.mul_div_cancel _ (by decide)]
/-- the test on one number -/
theorem swar {l : List Nat} {D T : Nat} (hl : l.length ≤ 10000) (hT : T < D) (h : (ev (2 ^ 16) l + 32457 * oX (2 ^ 16) D) &&& (2 ^ 15 * oX (2 ^ 16) D) = 0) : (l.filter (· == T)).length ≤ 310 := by
  obtain ⟨X, hX⟩ : ∃ X, X = 2 ^ 16 := ⟨_, rfl⟩
  have hX' : X = 65536 := hX
  obtain ⟨lo, hi, e1, e2⟩ := ev_digit X (by omega) T l
  obtain ⟨o, ho⟩ := oX_split X T (D - T - 1)
  rw [show T + 1 + (D - T - 1) = D by omega] at ho
  have hm := oX_mul X (by omega) T
  have hc : (l.filter (· == T)).length ≤ 10000 := Nat.le_trans (List.length_filter_le _ _) hl
  rcases Nat.lt_or_ge 310 (l.filter (· == T)).length with q | q
  · exfalso
    generalize (l.filter (· == T)).length = c at e1 hc q
    generalize hP : X ^ T = P at *
    have hP0 : 0 < P := by rw [← hP]; exact Nat.pow_pos (by omega)
    have hlow : lo + 32457 * oX X T < P := by
      have a1 : lo * X ≤ 10000 * P := Nat.le_trans e2 (Nat.mul_le_mul hl (Nat.le_refl _))
      rw [hX'] at a1 hm
      have a2 : oX 65536 T * 65535 + 1 = P := hm
      rw [hX']
      omega
    have eA : ev X l + 32457 * oX X D = (lo + 32457 * oX X T) + P * ((c + 32457) + X * (hi + 32457 * o)) := by
      rw [e1, ho, Nat.pow_succ, hP]
      simp only [Nat.mul_add, Nat.mul_assoc, Nat.mul_comm, Nat.mul_left_comm]
      omega
    have eM : 2 ^ 15 * oX X D = (2 ^ 15 * oX X T) + P * (2 ^ 15 + X * (2 ^ 15 * o)) := by
      rw [ho, show X ^ (T + 1) = P * X by rw [Nat.pow_succ, hP]]
      simp only [Nat.mul_add, Nat.mul_assoc, Nat.mul_comm, Nat.mul_left_comm]
      omega
    have hlowM : 2 ^ 15 * oX X T < P := by
      rw [hX'] at hm ⊢
      have a2 : oX 65536 T * 65535 + 1 = P := hm
      omega
    have hP2 : P = 2 ^ (16 * T) := by rw [← hP, hX, ← Nat.pow_mul]
    have b1 : (ev X l + 32457 * oX X D).testBit (15 + 16 * T) = true := by
      rw [eA, hP2, Nat.add_comm (lo + _), ← Nat.testBit_div_two_pow, Nat.mul_add_div (Nat.two_pow_pos _), Nat.div_eq_of_lt (by rw [← hP2]; exact hlow), Nat.add_zero, hX, Nat.testBit_eq_decide_div_mod_eq]
      have : ((c + 32457) + 2 ^ 16 * (hi + 32457 * o)) / 2 ^ 15 % 2 = 1 := by omega
      simp [this]
    have b2 : (2 ^ 15 * oX X D).testBit (15 + 16 * T) = true := by
      rw [eM, hP2, Nat.add_comm (2 ^ 15 * oX X T), ← Nat.testBit_div_two_pow, Nat.mul_add_div (Nat.two_pow_pos _), Nat.div_eq_of_lt (by rw [← hP2]; exact hlowM), Nat.add_zero, hX, Nat.testBit_eq_decide_div_mod_eq]
      have : (2 ^ 15 + 2 ^ 16 * (2 ^ 15 * o)) / 2 ^ 15 % 2 = 1 := by omega
      exact decide_eq_true this
    have b3 : ((ev X l + 32457 * oX X D) &&& (2 ^ 15 * oX X D)).testBit (15 + 16 * T) = true := by rw [Nat.testBit_and, b1, b2]; rfl
    rw [hX, h] at b3
    simp at b3
  · exact q
/-- the sums of four lists of exponents -/
def Z4 (l0 l1 l2 l3 : List Nat) (p : Nat → Nat) : List Nat := l0.flatMap fun a => l1.flatMap fun b => l2.flatMap fun c => l3.map fun d => p a + p b + p c + p d
theorem ev_Z4 (X : Nat) (l0 l1 l2 l3 : List Nat) (p : Nat → Nat) : ev X (Z4 l0 l1 l2 l3 p) = ev X (l0.map p) * (ev X (l1.map p) * (ev X (l2.map p) * ev X (l3.map p))) := by
  unfold Z4
  refine ev_flat X _ p _ (fun a => ?_) l0
  have e3 : ∀ b c, ev X (l3.map fun d => p a + p b + p c + p d) = X ^ (p a + p b + p c) * ev X (l3.map p) := by
    intro b c
    rw [← ev_map, List.map_map]
    rfl
  have e2 : ∀ b, ev X (l2.flatMap fun c => l3.map fun d => p a + p b + p c + p d) = X ^ (p a + p b) * (ev X (l2.map p) * ev X (l3.map p)) := by
    intro b
    rw [ev_flat X _ (fun c => p a + p b + p c) _ (fun c => e3 b c) l2]
    rw [show (l2.map fun c => p a + p b + p c) = (l2.map p).map ((p a + p b) + ·) by rw [List.map_map]; rfl, ev_map, Nat.mul_assoc]
  rw [ev_flat X _ (fun b => p a + p b) _ (fun b => e2 b) l1]
  rw [show (l1.map fun b => p a + p b) = (l1.map p).map (p a + ·) by rw [List.map_map]; rfl, ev_map, Nat.mul_assoc]
theorem L0_len (s : Sh) (pn : Bool) : (L0 s pn (rowA s pn 0)).length = ((Z4 (rowA s pn 0) (rowA s pn 1) (rowA s pn 2) (rowA s pn 3) (pkd s)).filter (· == tgt s)).length := by
  unfold L0 L1 L2 L3 Z4
  have e3 : ∀ a b c (l : List Nat), (l.flatMap fun d => if pkd s a + pkd s b + pkd s c + pkd s d = tgt s then [pv s a b c d] else []).length = ((l.map fun d => pkd s a + pkd s b + pkd s c + pkd s d).filter (· == tgt s)).length := by
    intro a b c l
    induction l with
    | nil => rfl
    | cons d l ih =>
      rw [List.flatMap_cons, List.length_append, ih, List.map_cons, List.filter_cons]
      by_cases q : pkd s a + pkd s b + pkd s c + pkd s d = tgt s
      · simp [q]; omega
      · simp [q]
  have fl : ∀ (l : List Nat) (f g : Nat → List Nat), (∀ a, (f a).length = ((g a).filter (· == tgt s)).length) → (l.flatMap f).length = ((l.flatMap g).filter (· == tgt s)).length := by
    intro l f g h
    induction l with
    | nil => rfl
    | cons a l ih => rw [List.flatMap_cons, List.flatMap_cons, List.length_append, List.filter_append, List.length_append, ih, h]
  exact fl _ _ _ (fun a => fl _ _ _ (fun b => fl _ _ _ (fun c => e3 a b c _)))
theorem Z4_len {l0 l1 l2 l3 : List Nat} {p : Nat → Nat} (h0 : l0.length ≤ 10) (h1 : l1.length ≤ 10) (h2 : l2.length ≤ 10) (h3 : l3.length ≤ 10) : (Z4 l0 l1 l2 l3 p).length ≤ 10000 := by
  have fl : ∀ (l : List Nat) (f : Nat → List Nat) (k : Nat), (∀ a, (f a).length ≤ k) → (l.flatMap f).length ≤ l.length * k := by
    intro l f k h
    induction l with
    | nil => simp
    | cons a l ih => rw [List.flatMap_cons, List.length_append, List.length_cons, Nat.add_mul]; have := h a; omega
  unfold Z4
  have k3 : ∀ a b c, (l3.map fun d => p a + p b + p c + p d).length ≤ 10 := fun a b c => by simpa using h3
  have k2 : ∀ a b, (l2.flatMap fun c => l3.map fun d => p a + p b + p c + p d).length ≤ 100 := fun a b => Nat.le_trans (fl _ _ 10 (fun c => k3 a b c)) (by omega)
  have k1 : ∀ a, (l1.flatMap fun b => l2.flatMap fun c => l3.map fun d => p a + p b + p c + p d).length ≤ 1000 := fun a => Nat.le_trans (fl _ _ 100 (fun b => k2 a b)) (by omega)
  exact Nat.le_trans (fl _ _ 1000 k1) (by omega)
/-- the numbers of a row's masks by its total, w columns wide -/
def pW (w m : Nat) : Nat := pkS (fun c => bitN m (w - 1 - c)) w
def pol (w t : Nat) : Nat := ev (2 ^ 16) (((List.range (2 ^ w)).filter fun m => bc m 20 == t).map (pW w))
def chk (w t0 t1 t2 t3 : Nat) : Bool := (pol w t0 * (pol w t1 * (pol w t2 * pol w t3)) + 32457 * (((2 ^ 16) ^ (8 ^ w) - 1) / (2 ^ 16 - 1))) &&& (2 ^ 15 * (((2 ^ 16) ^ (8 ^ w) - 1) / (2 ^ 16 - 1))) == 0
