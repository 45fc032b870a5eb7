/-! a key -/
def tlG (s : Sh) (q : Nat) (D : Nat → Bool) : Bool := (ans s).all fun x => x == q || D (x ^^^ q)
def t0 (s : Sh) (q : Nat) : Bool := tlG s q fun _ => false
def t1 (s : Sh) (q a : Nat) : Bool := tlG s q fun y => cb s y a
def t2 (s : Sh) (q a b : Nat) : Bool := tlG s q fun y => cb s y a || cb s y b
def t3 (s : Sh) (q a b c : Nat) : Bool := tlG s q fun y => (cb s y a || cb s y b) || cb s y c
theorem tlG_congr {s : Sh} {q : Nat} {D D' : Nat → Bool} (h : ∀ y, D y = D' y) : tlG s q D = tlG s q D' := by
  have : D = D' := funext h
  rw [this]
theorem xor_lt {s : Sh} {x q : Nat} (hx : x ∈ ans s) (hq : q ∈ ans s) : x ^^^ q < 2 ^ sN s := Nat.xor_lt_two_pow (ans_lt hx) (ans_lt hq)
theorem shl_zero {s : Sh} (w : WS s) {y : Nat} (hy : y < 2 ^ sN s) : shl s y = 0 ↔ y = 0 := by
  have e : shl s 0 = 0 := by unfold shl; rw [Nat.zero_mul]; rfl
  rw [← e]
  exact shl_inj w hy (Nat.two_pow_pos _)
theorem xor_zero_iff (x q : Nat) : x ^^^ q = 0 ↔ x = q := by
  constructor
  · intro h
    refine Nat.eq_of_testBit_eq fun i => ?_
    have := congrArg (fun z => z.testBit i) h
    simp only [Nat.testBit_xor, Nat.zero_testBit] at this
    revert this
    cases x.testBit i <;> cases q.testBit i <;> simp
  · intro h; rw [h, Nat.xor_self]
theorem ta_eq {N t q : Nat} {s : Sh} {h : mH} {told : Int32} {D : Nat → Bool} (hN : 400 < N) (w : WS s) (cs : CS h (t + 1) s) (al : AL h (t + 4) s) (p1 : s.2 = some q) (hq : q ∈ ans s) (hD : ∀ y, y < 2 ^ sN s → (shl s y &&& told = 0 ↔ D y = false)) : ∃ M, x_X2_tellingApart N t told h = some M ∧ (∀ k, k < sN s → bt M (19 - k) = tlG s q (fun y => D y || cb s y k)) ∧ (tlG s q D = false → ∀ k, sN s ≤ k → k < 20 → bt M (19 - k) = false) := by
  have l310 := ans_310 w
  have n20 := w.n20
  have pc : mgi h (t + 1) 6 = shl s q := by rw [← plC_some p1]; exact cs.2.2.2.2.2.2
  have main : ∃ M, x_X2_tellingApart N t told h = some M ∧ ∀ i, i < 32 → bt M i = (ans s).all (fun x => x == q || (D (x ^^^ q) || bt (shl s (x ^^^ q)) i)) := by
    unfold x_X2_tellingApart
    refine lpI (fun f (v : Int32) i => x_X2_tellingApart_4 N t told h f v i) (fun j v => ∀ i, i < 32 → bt v i = ((ans s).take j).all (fun x => x == q || (D (x ^^^ q) || bt (shl s (x ^^^ q)) i))) (fun o => ∃ M, o = some M ∧ ∀ i, i < 32 → bt M i = (ans s).all (fun x => x == q || (D (x ^^^ q) || bt (shl s (x ^^^ q)) i))) (ans s).length (fun f j v hj hv => ?_) (fun f v hv => ?_) N 0 (-1) (by omega) (by omega) (fun i hi => by rw [b_m1 i hi]; rfl)
    · show (∃ a' : Int32, x_X2_tellingApart_4 N t told h (f + 1) v (nI j) = x_X2_tellingApart_4 N t told h f a' (nI (j + 1)) ∧ _) ∨ ∃ M, x_X2_tellingApart_4 N t told h (f + 1) v (nI j) = some M ∧ _
      have hx := getD_mem hj
      have hy := xor_lt hx hq
      have ex : mgi h (t + 4 + 2) j ^^^ mgi h (t + 1) 6 = shl s ((ans s).getD j 0 ^^^ q) := by
        rw [al.2.2.2.1 j hj, pc]
        exact xor_shl _ _ _
      have tk : ∀ i, ((ans s).take (j + 1)).all (fun x => x == q || (D (x ^^^ q) || bt (shl s (x ^^^ q)) i)) = (((ans s).take j).all (fun x => x == q || (D (x ^^^ q) || bt (shl s (x ^^^ q)) i)) && ((ans s).getD j 0 == q || (D ((ans s).getD j 0 ^^^ q) || bt (shl s ((ans s).getD j 0 ^^^ q)) i))) := fun i => by
        have e1 : (ans s)[j]? = some ((ans s).getD j 0) := by
          rw [List.getD_eq_getElem?_getD, List.getElem?_eq_getElem hj]
          rfl
        rw [List.take_succ, e1, List.all_append]
        simp
      rw [x_X2_tellingApart_4_s, al.2.2.1, if_neg (nI_ge hj (by omega))]
      by_cases c0 : v = 0
      · refine Or.inr ⟨v, by rw [if_pos c0], fun i hi => ?_⟩
        have hz := hv i hi
        rw [c0, b_0] at hz ⊢
        refine (Bool.eq_false_iff.mpr fun q' => ?_).symm
        rw [List.all_eq_true] at q'
        have : ((ans s).take j).all (fun x => x == q || (D (x ^^^ q) || bt (shl s (x ^^^ q)) i)) = true := List.all_eq_true.mpr fun x hx => q' x (List.mem_of_mem_take hx)
        rw [this] at hz
        cases hz
      · rw [if_neg c0, mck_ok (vp_in_nI (by omega) (by decide)), nI_clamp (by omega), mlet_eq, ex]
        unfold x_X2_tellingApart_55
        refine Or.inl ?_
        by_cases c1 : (ans s).getD j 0 = q
        · refine ⟨v, by rw [if_pos ((shl_zero w hy).mpr ((xor_zero_iff _ _).mpr c1)), nI_1], fun i hi => ?_⟩
          rw [tk i, hv i hi, beq_iff_eq.mpr c1]
          simp
        · have c1' : ((ans s).getD j 0 == q) = false := beq_eq_false_iff_ne.mpr c1
          rw [if_neg (fun e => c1 ((xor_zero_iff _ _).mp ((shl_zero w hy).mp e)))]
          by_cases c2 : D ((ans s).getD j 0 ^^^ q) = true
          · refine ⟨v, by rw [if_pos (fun e => by rw [(hD _ hy).mp e] at c2; cases c2), nI_1], fun i hi => ?_⟩
            rw [tk i, hv i hi, c2]
            simp
          · have c2' : D ((ans s).getD j 0 ^^^ q) = false := by simpa using c2
            refine ⟨v &&& shl s ((ans s).getD j 0 ^^^ q), by rw [if_neg (not_not_intro ((hD _ hy).mpr c2')), mlet_eq, nI_1], fun i hi => ?_⟩
            rw [tk i, b_and, hv i hi, c1', c2']
            rfl
    · refine ⟨v, ?_, fun i hi => by rw [hv i hi, List.take_length]⟩
      show x_X2_tellingApart_4 N t told h (f + 1) v (nI (ans s).length) = _
      rw [x_X2_tellingApart_4_s, al.2.2.1, if_pos (nI_le (Nat.le_refl _) (by omega))]
  obtain ⟨M, e1, e2⟩ := main
  refine ⟨M, e1, fun k hk => ?_, fun hz k hk1 hk2 => ?_⟩
  · rw [e2 _ (by omega)]
    unfold tlG
    rw [Bool.eq_iff_iff, List.all_eq_true, List.all_eq_true]
    refine forall_congr' fun x => forall_congr' fun hx => ?_
    rw [bt_shl_at w (xor_lt hx hq) hk]
  · rw [e2 _ (by omega)]
    refine Bool.eq_false_iff.mpr fun q' => ?_
    rw [List.all_eq_true] at q'
    have : tlG s q D = true := List.all_eq_true.mpr fun x hx => by
      have := q' x hx
      rw [shl_bit w (by omega) (xor_lt hx hq)] at this
      have h3 : ¬ 19 - (19 - k) < sN s := by omega
      simpa [h3] using this
    rw [this] at hz
    cases hz
theorem leastCell_eq {N : Nat} {L : Nat} (hL : L = 20) (hN : 40 < N) (M : Int32) : x_X8_leastCell N M = some (fsI (fun k => bt M (19 - k)) L) := by
  unfold x_X8_leastCell
  refine lpI (fun f (_ : Unit) i => x_X8_leastCell_2 N M f i) (fun k _ => ∀ j, j < k → bt M (19 - j) = false) (fun o => o = some (fsI (fun k => bt M (19 - k)) L)) 20 (fun f k _ hk hx => ?_) (fun f _ hx => ?_) N 0 () (by omega) (by omega) (fun j hj => by omega)
  · show (∃ a' : Unit, x_X8_leastCell_2 N M (f + 1) (nI k) = x_X8_leastCell_2 N M f (nI (k + 1)) ∧ _) ∨ x_X8_leastCell_2 N M (f + 1) (nI k) = _
    rw [x_X8_leastCell_2_s, if_neg (show ¬ (20 : Int32) ≤ nI k from nI_ge (b := 20) hk (by decide)), bit_of k hk, Option.bind_some]
    by_cases c : bt M (19 - k) = true
    · refine Or.inr ?_
      rw [if_neg (fun e => by rw [and_bit0 _ (by omega), c] at e; cases e)]
      exact congrArg some (fsI_eq (p := fun k => bt M (19 - k)) (n := L) (Or.inr ⟨k, by omega, c, rfl, hx⟩))
    · have c' : bt M (19 - k) = false := by simpa using c
      refine Or.inl ⟨(), by rw [if_pos ((and_bit0 _ (by omega)).mpr c'), nI_1], fun j hj => ?_⟩
      by_cases d : j = k
      · rw [d]; exact c'
      · exact hx j (by omega)
  · show x_X8_leastCell_2 N M (f + 1) (nI 20) = _
    rw [x_X8_leastCell_2_s, if_pos (by decide)]
    exact congrArg some (fsI_eq (p := fun k => bt M (19 - k)) (n := L) (Or.inl ⟨rfl, by rw [hL]; exact hx⟩))
theorem fsI_cut {p p' : Nat → Bool} {n m : Nat} (hnm : n ≤ m) (h1 : ∀ k, k < n → p k = p' k) (h2 : ∀ k, n ≤ k → k < m → p k = false) : fsI p m = fsI p' n := by
  refine fsI_eq ?_
  rcases fsI_Fst p m with ⟨a1, a2⟩ | ⟨j, a1, a2, a3, a4⟩
  · exact Or.inl ⟨a1, fun j hj => by rw [← h1 j hj]; exact a2 j (by omega)⟩
  · have hj : j < n := by
      rcases Nat.lt_or_ge j n with q | q
      · exact q
      · rw [h2 j q a1] at a2; cases a2
    exact Or.inr ⟨j, hj, by rw [← h1 j hj]; exact a2, a3, fun i hi => by rw [← h1 i (by omega)]; exact a4 i hi⟩
/-- the class's look for a last cell -/
theorem last_eq {N t q : Nat} {s : Sh} {h : mH} {told : Int32} {D : Nat → Bool} (hN : 400 < N) (w : WS s) (cs : CS h (t + 1) s) (al : AL h (t + 4) s) (p1 : s.2 = some q) (hq : q ∈ ans s) (hD : ∀ y, y < 2 ^ sN s → (shl s y &&& told = 0 ↔ D y = false)) (hz : tlG s q D = false) : ((x_X2_tellingApart N t told h).bind fun q3 => x_X8_leastCell N q3) = some (fsI (fun k => tlG s q (fun y => D y || cb s y k)) (sN s)) := by
  obtain ⟨M, e1, e2, e3⟩ := ta_eq hN w cs al p1 hq hD
  obtain ⟨L, hL⟩ : ∃ L, L = 20 := ⟨_, rfl⟩
  rw [e1, Option.bind_some, leastCell_eq hL (by omega)]
  exact congrArg some (fsI_cut (by rw [hL]; exact w.n20.2) e2 (by rw [hL]; exact e3 hz))
theorem and_or0 (x a b : Int32) : x &&& (a ||| b) = 0 ↔ x &&& a = 0 ∧ x &&& b = 0 := by
  constructor
  · intro e
    constructor
    · refine b_ext fun i hi => ?_
      have := congrArg (fun z => bt z i) e
      simp only [b_and, b_or, b_0] at this
      rw [b_and, b_0]
      revert this
      cases bt x i <;> cases bt a i <;> simp
    · refine b_ext fun i hi => ?_
      have := congrArg (fun z => bt z i) e
      simp only [b_and, b_or, b_0] at this
      rw [b_and, b_0]
      revert this
      cases bt x i <;> cases bt b i <;> simp
  · rintro ⟨e1, e2⟩
    refine b_ext fun i hi => ?_
    have f1 := congrArg (fun z => bt z i) e1
    have f2 := congrArg (fun z => bt z i) e2
    simp only [b_and, b_0] at f1 f2
    rw [b_and, b_or, b_0]
    revert f1 f2
    cases bt x i <;> cases bt a i <;> cases bt b i <;> simp
theorem shl_and {s : Sh} (w : WS s) {y k : Nat} (hy : y < 2 ^ sN s) (hk : k < sN s) : shl s y &&& nI (2 ^ (19 - k)) = 0 ↔ cb s y k = false := shl_and0 w hy hk
/-! what a key is: by numbers of one, two, three cells -/
def k1 (s : Sh) (q : Nat) : Int32 := fsV (t1 s q) (fun a => a + 1) (sN s)
def p2 (s : Sh) (q k : Nat) : Bool := decide (k / sN s < k % sN s) && t2 s q (k / sN s) (k % sN s)
def k2 (s : Sh) (q : Nat) : Int32 := fsV (p2 s q) (fun k => 100 * (k / sN s + 1) + k % sN s + 1) (sN s * sN s)
def p3 (s : Sh) (q k : Nat) : Bool := (decide (k / (sN s * sN s) < k / sN s % sN s) && decide (k / sN s % sN s < k % sN s)) && t3 s q (k / (sN s * sN s)) (k / sN s % sN s) (k % sN s)
def v3 (s : Sh) (k : Nat) : Nat := 10000 * (k / (sN s * sN s) + 1) + 100 * (k / sN s % sN s + 1) + k % sN s + 1
def k3 (s : Sh) (q : Nat) : Int32 := fsV (p3 s q) (v3 s) (sN s * sN s * sN s)
def kC (s : Sh) (q : Nat) : Int32 × Int32 := if t0 s q = true then (0, 0) else if ¬ k1 s q = -9 then (1, k1 s q) else if ¬ k2 s q = -9 then (2, k2 s q) else if ¬ k3 s q = -9 then (3, k3 s q) else (-9, -9)
theorem t0_len {s : Sh} {q : Nat} (hq : q ∈ ans s) : t0 s q = true ↔ (ans s).length = 1 := by
  have hs := ans_sorted s
  unfold t0 tlG
  rw [List.all_eq_true]
  constructor
  · intro H
    have he : ∀ j, j < (ans s).length → (ans s).getD j 0 = q := fun j hj => by
      have := H _ (getD_mem hj)
      simpa using this
    have hl := List.length_pos_of_mem hq
    rcases Nat.lt_or_ge 1 (ans s).length with c | c
    · have := getD_lt hs (show 0 < 1 by decide) c
      rw [he 0 (by omega), he 1 c] at this
      omega
    · omega
  · intro hl x hx
    obtain ⟨j, hj, e⟩ := mem_getD.mp hx
    obtain ⟨i, hi, e'⟩ := mem_getD.mp hq
    have : j = i := by omega
    rw [this, e'] at e
    simp [e]
theorem fsV_9 {p : Nat → Bool} {V : Nat → Nat} {n : Nat} (hV : ∀ k, k < n → V k < 2 ^ 31) : fsV p V n = -9 ↔ ∀ k, k < n → p k = false := by
  rcases fsV_Fst p V n with ⟨a1, a2⟩ | ⟨j, a1, a2, a3, a4⟩
  · exact ⟨fun _ => a2, fun _ => a1⟩
  · rw [a3]
    exact ⟨fun q => absurd q (nI_n9 (hV j a1)), fun q => by rw [q j a1] at a2; cases a2⟩
theorem t2_comm (s : Sh) (q a b : Nat) : t2 s q a b = t2 s q b a := tlG_congr fun y => Bool.or_comm _ _
theorem t2_self (s : Sh) (q a : Nat) : t2 s q a a = t1 s q a := tlG_congr fun y => Bool.or_self _
theorem t3_p1 (s : Sh) (q a b c : Nat) : t3 s q a b c = t3 s q a c b := tlG_congr fun y => by cases cb s y a <;> cases cb s y b <;> cases cb s y c <;> rfl
theorem t3_p2 (s : Sh) (q a b c : Nat) : t3 s q a b c = t3 s q c a b := tlG_congr fun y => by cases cb s y a <;> cases cb s y b <;> cases cb s y c <;> rfl
theorem t3_s1 (s : Sh) (q a b : Nat) : t3 s q a b a = t2 s q a b := tlG_congr fun y => by cases cb s y a <;> cases cb s y b <;> rfl
theorem t3_s2 (s : Sh) (q a b : Nat) : t3 s q a b b = t2 s q a b := tlG_congr fun y => by cases cb s y a <;> cases cb s y b <;> rfl
theorem dm2 {n a b : Nat} (hb : b < n) : (a * n + b) / n = a ∧ (a * n + b) % n = b := by
  have hn : 0 < n := by omega
  rw [Nat.mul_comm]
  constructor
  · rw [Nat.mul_add_div hn, Nat.div_eq_of_lt hb, Nat.add_zero]
  · rw [Nat.mul_add_mod, Nat.mod_eq_of_lt hb]
theorem dm3 {n a b c : Nat} (hb : b < n) (hc : c < n) : ((a * n + b) * n + c) / (n * n) = a ∧ ((a * n + b) * n + c) / n % n = b ∧ ((a * n + b) * n + c) % n = c := by
  obtain ⟨e1, e2⟩ := dm2 (a := a * n + b) hc
  obtain ⟨e3, e4⟩ := dm2 (a := a) hb
  refine ⟨?_, ?_, e2⟩
  · rw [← Nat.div_div_eq_div_mul, e1, e3]
  · rw [e1, e4]
