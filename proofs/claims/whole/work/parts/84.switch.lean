/-! switches -/
theorem cell_inj {w r c r1 c1 : Nat} (hc : c < w) (h1 : c1 < w) : w * r + c = w * r1 + c1 ↔ r = r1 ∧ c = c1 := ⟨fun e => mul_mod_uniq hc h1 e, fun ⟨a, b⟩ => by rw [a, b]⟩
theorem cell_lt {s : Sh} {r c : Nat} (hr : r < sH s) (hc : c < sW s) : sW s * r + c < sN s := by
  unfold sN
  have : sW s * (r + 1) ≤ sW s * sH s := Nat.mul_le_mul_left _ hr
  rw [Nat.mul_succ] at this
  rw [Nat.mul_comm (sH s)]
  omega
theorem b_31 : ∀ i, i < 32 → bt 31 i = decide (i < 5) := by decide +kernel
theorem columnsOf_eq {a r : Nat} {s : Sh} {h : mH} (w : WS s) (cs : CS h a s) (hr : r < sH s) (p : Int32) : x_X6_columnsOf a p (nI r) h = some (nI (P5 fun c => decide (c < sW s) && bt p (19 - (sW s * r + c)))) := by
  have w5 := w.2.2.2.1
  have h4 := w.2.1
  have w1 := w.2.2.1
  have hb : sW s * r ≤ 15 := Nat.le_trans (Nat.mul_le_mul w5 (show r ≤ 3 by omega)) (by decide)
  unfold x_X6_columnsOf
  simp only [mlet_eq]
  rw [cs.2.1, pk_mul, show (15 : Int32) = nI 15 from rfl, pk_sub hb, show (5 : Int32) = nI 5 from rfl, pk_sub w5]
  congr 1
  refine b_ext fun i hi => ?_
  rw [b_and, b_and, bt_nI _ _ hi, P5_bit, b_31 i hi, b_shl _ (by omega) _ hi]
  unfold xushr
  rw [b_ushr _ (by omega)]
  by_cases c : i < 5
  · have e1 : 19 - (sW s * r + (4 - i)) = 15 - sW s * r + i := by omega
    rw [e1]
    by_cases d : 5 - sW s ≤ i
    · have d' : 4 - i < sW s := by omega
      rw [b_m1 _ (by omega)]
      simp [c, d, d']
    · have d' : ¬ 4 - i < sW s := by omega
      simp [d, d']
  · simp [c]
/-- the columns that a row could give up to another one -/
def gv (s : Sh) (q r r' c : Nat) : Bool := (cb s q (sW s * r + c) && !cb s q (sW s * r' + c)) && (sP s (sW s * r + c) == 0 && sP s (sW s * r' + c) == 0)
theorem bt_cm {s : Sh} (w : WS s) (f : Nat → Bool) {k : Nat} (hk : k < sN s) : bt (nI (cmask f (sN s))) (19 - k) = f k := by
  have n20 := w.n20
  rw [bt_nI _ _ (by omega), cmask_bit n20.2]
  have h1 : 19 - k < 20 := by omega
  have h2 : 19 - (19 - k) = k := by omega
  simp [h1, h2, hk]
theorem giving_eq {a r r' q : Nat} {s : Sh} {h : mH} (w : WS s) (cs : CS h a s) (hr : r < sH s) (hr' : r' < sH s) (hq : q < 2 ^ sN s) : x_X6_giving a (shl s q) (nI r) (nI r') h = some (nI (P5 fun c => decide (c < sW s) && gv s q r r' c)) := by
  unfold x_X6_giving
  rw [columnsOf_eq w cs hr, columnsOf_eq w cs hr', columnsOf_eq w cs hr, columnsOf_eq w cs hr']
  simp only [Option.bind_some, mlet_eq]
  congr 1
  refine b_ext fun i hi => ?_
  rw [b_and, b_and, bt_neg _ hi, bt_neg _ hi, b_or, bt_nI _ _ hi, bt_nI _ _ hi, bt_nI _ _ hi, bt_nI _ _ hi, bt_nI _ _ hi, P5_bit, P5_bit, P5_bit, P5_bit, P5_bit]
  by_cases c : i < 5
  · by_cases d : 4 - i < sW s
    · have k1 := cell_lt hr d
      have k2 := cell_lt hr' d
      rw [cs.2.2.2.2.1, bt_cm w _ k1, bt_cm w _ k2, bt_shl_at w hq k1, bt_shl_at w hq k2]
      simp only [c, d, decide_true, Bool.true_and]
      unfold gv
      cases cb s q (sW s * r + (4 - i)) <;> cases cb s q (sW s * r' + (4 - i)) <;> by_cases e1 : sP s (sW s * r + (4 - i)) = 0 <;> by_cases e2 : sP s (sW s * r' + (4 - i)) = 0 <;> simp [e1, e2, bne]
    · simp [d]
  · simp [c]
theorem P5_and {f : Nat → Bool} {c : Nat} (hc : c < 5) : nI (P5 f) &&& nI (2 ^ (4 - c)) = 0 ↔ f c = false := by
  rw [and_bit0 _ (by omega), bt_nI _ _ (by omega), P5_bit]
  have h1 : 4 - c < 5 := by omega
  have h2 : 4 - (4 - c) = c := by omega
  simp [h1, h2]
def swc (s : Sh) (q r r' c d : Nat) : Bool := gv s q r r' c && gv s q r' r d
theorem isSwitch_eq {a r r' c d q : Nat} {s : Sh} {h : mH} (w : WS s) (cs : CS h a s) (hr : r < sH s) (hr' : r' < sH s) (hc : c < sW s) (hd : d < sW s) (hq : q < 2 ^ sN s) : x_X6_isSwitch a (shl s q) (nI r) (nI r') (nI c) (nI d) h = some (if swc s q r r' c d then 1 else 0) := by
  have w5 := w.2.2.2.1
  unfold x_X6_isSwitch
  rw [giving_eq w cs hr hr' hq, giving_eq w cs hr' hr hq, colBit c (by omega), colBit d (by omega)]
  simp only [Option.bind_some]
  unfold swc
  by_cases g1 : gv s q r r' c = true
  · rw [if_neg (fun e => by rw [P5_and (by omega)] at e; simp [hc, g1] at e)]
    by_cases g2 : gv s q r' r d = true
    · rw [if_neg (fun e => by rw [P5_and (by omega)] at e; simp [hd, g2] at e)]
      simp [g1, g2]
    · have g2' : gv s q r' r d = false := by simpa using g2
      rw [if_pos ((P5_and (by omega)).mpr (by simp [g2']))]
      simp [g2']
  · have g1' : gv s q r r' c = false := by simpa using g1
    rw [if_pos ((P5_and (by omega)).mpr (by simp [g1']))]
    simp [g1']
def pB (s : Sh) (k : Nat) : Nat := 2 ^ (sN s - 1 - k)
def fourN (s : Sh) (r r' c d : Nat) : Nat := (pB s (sW s * r + c) ||| pB s (sW s * r' + d)) ||| (pB s (sW s * r + d) ||| pB s (sW s * r' + c))
def swt (s : Sh) (q r r' c d : Nat) : Nat := q ^^^ fourN s r r' c d
theorem pB_shl {s : Sh} (w : WS s) {k : Nat} (hk : k < sN s) : nI (2 ^ (19 - k)) = shl s (pB s k) := by
  have n20 := w.n20
  unfold shl pB
  rw [← Nat.pow_add]
  congr 2
  omega
theorem or_shl (o n k : Nat) : nI (o * 2 ^ k) ||| nI (n * 2 ^ k) = nI ((o ||| n) * 2 ^ k) := by
  rw [fa_or]
  congr 1
  refine Nat.eq_of_testBit_eq fun i => ?_
  rw [Nat.testBit_or, Nat.testBit_mul_two_pow, Nat.testBit_mul_two_pow, Nat.testBit_mul_two_pow, Nat.testBit_or]
  by_cases c : k ≤ i <;> simp [c]
theorem bitAt_eq {a r c : Nat} {s : Sh} {h : mH} (w : WS s) (cs : CS h a s) (hr : r < sH s) (hc : c < sW s) : x_X6_bitAt a (nI r) (nI c) h = some (shl s (pB s (sW s * r + c))) := by
  have n20 := w.n20
  have k1 := cell_lt hr hc
  unfold x_X6_bitAt
  rw [cs.2.1, pk_mul, nI_add, bit_of _ (by omega), pB_shl w k1]
  rfl
theorem switched_eq {a r r' c d q : Nat} {s : Sh} {h : mH} (w : WS s) (cs : CS h a s) (hr : r < sH s) (hr' : r' < sH s) (hc : c < sW s) (hd : d < sW s) : x_X6_switched a (shl s q) (nI r) (nI r') (nI c) (nI d) h = some (shl s (swt s q r r' c d)) := by
  unfold x_X6_switched
  rw [bitAt_eq w cs hr hc, bitAt_eq w cs hr' hd, bitAt_eq w cs hr hd, bitAt_eq w cs hr' hc]
  simp only [Option.bind_some]
  congr 1
  unfold shl
  rw [or_shl, or_shl, or_shl, xor_shl]
  unfold swt fourN
  rw [Nat.or_assoc]
theorem pB_lt {s : Sh} (w : WS s) (k : Nat) : pB s k < 2 ^ sN s := by
  have n20 := w.n20
  unfold pB
  exact Nat.pow_lt_pow_right (by decide) (by omega)
theorem four_lt {s : Sh} (w : WS s) (r r' c d : Nat) : fourN s r r' c d < 2 ^ sN s := by
  unfold fourN
  exact Nat.or_lt_two_pow (Nat.or_lt_two_pow (pB_lt w _) (pB_lt w _)) (Nat.or_lt_two_pow (pB_lt w _) (pB_lt w _))
theorem swt_lt {s : Sh} (w : WS s) {q r r' c d : Nat} (hq : q < 2 ^ sN s) : swt s q r r' c d < 2 ^ sN s := Nat.xor_lt_two_pow hq (four_lt w _ _ _ _)
theorem pB_bit {s : Sh} {k j : Nat} (hk : k < sN s) (hj : j < sN s) : (pB s k).testBit (sN s - 1 - j) = decide (j = k) := by
  unfold pB
  rw [Nat.testBit_two_pow]
  congr 1
  apply propext
  omega
theorem four_bit {s : Sh} {r r' c d k : Nat} (hr : r < sH s) (hr' : r' < sH s) (hc : c < sW s) (hd : d < sW s) (hk : k < sN s) : (fourN s r r' c d).testBit (sN s - 1 - k) = (decide (k = sW s * r + c) || decide (k = sW s * r' + d) || (decide (k = sW s * r + d) || decide (k = sW s * r' + c))) := by
  unfold fourN
  rw [Nat.testBit_or, Nat.testBit_or, Nat.testBit_or, pB_bit (cell_lt hr hc) hk, pB_bit (cell_lt hr' hd) hk, pB_bit (cell_lt hr hd) hk, pB_bit (cell_lt hr' hc) hk]
theorem cb_swt {s : Sh} {q r r' c d k : Nat} (hr : r < sH s) (hr' : r' < sH s) (hc : c < sW s) (hd : d < sW s) (hk : k < sN s) : cb s (swt s q r r' c d) k = (cb s q k ^^ (decide (k = sW s * r + c) || decide (k = sW s * r' + d) || (decide (k = sW s * r + d) || decide (k = sW s * r' + c)))) := by
  unfold cb swt
  rw [Nat.testBit_xor, four_bit hr hr' hc hd hk]
theorem gv_iff {s : Sh} {q r r' c : Nat} : gv s q r r' c = true ↔ cb s q (sW s * r + c) = true ∧ cb s q (sW s * r' + c) = false ∧ sP s (sW s * r + c) = 0 ∧ sP s (sW s * r' + c) = 0 := by
  unfold gv
  simp only [Bool.and_eq_true, Bool.not_eq_true', beq_iff_eq]
  constructor
  · rintro ⟨⟨a, b⟩, c, d⟩; exact ⟨a, b, c, d⟩
  · rintro ⟨a, b, c, d⟩; exact ⟨⟨a, b⟩, c, d⟩
theorem ct_two (p p' : Nat → Bool) {n i j : Nat} (hi : i < n) (hj : j < n) (hij : i ≠ j) (h1 : p i = true) (h2 : p j = false) (h3 : ∀ k, k < n → p' k = if k = i then false else if k = j then true else p k) : fb_ct p' n = fb_ct p n := by
  obtain ⟨P, hP⟩ : ∃ P : Nat → Bool, P = fun k => if k = j then true else p k := ⟨_, rfl⟩
  have e1 : fb_ct P n + 0 = fb_ct p n + 1 := by
    have := fb_ct_upd p true (i := j) hj
    rw [h2] at this
    rw [hP]
    exact this
  have e2 : fb_ct (fun k => if k = i then false else P k) n + 1 = fb_ct P n + 0 := by
    have := fb_ct_upd P false (i := i) hi
    have t : P i = true := by rw [hP]; show (if i = j then true else p i) = true; rw [if_neg hij, h1]
    rw [t] at this
    exact this
  have e3 : fb_ct p' n = fb_ct (fun k => if k = i then false else P k) n := fb_ct_cong fun k hk => by rw [h3 k hk, hP]
  omega
theorem swc_ne {s : Sh} {q r r' c d : Nat} (h : swc s q r r' c d = true) : r ≠ r' ∧ c ≠ d := by
  unfold swc at h
  rw [Bool.and_eq_true, gv_iff, gv_iff] at h
  obtain ⟨⟨a1, a2, -, -⟩, b1, b2, -, -⟩ := h
  constructor
  · intro e; rw [e] at a1; rw [a1] at a2; cases a2
  · intro e; rw [e] at a1; rw [a1] at b2; cases b2
theorem swt_row {s : Sh} {q r r' c d : Nat} (hr : r < sH s) (hr' : r' < sH s) (hc : c < sW s) (hd : d < sW s) (hne : r ≠ r') (hcd : c ≠ d) {u v : Nat} (hu : u < sH s) (hv : v < sW s) : cb s (swt s q r r' c d) (sW s * u + v) = if u = r ∨ u = r' then (if v = c ∨ v = d then !cb s q (sW s * u + v) else cb s q (sW s * u + v)) else cb s q (sW s * u + v) := by
  rw [cb_swt hr hr' hc hd (cell_lt hu hv)]
  simp only [cell_inj hv hc, cell_inj hv hd]
  by_cases a : u = r <;> by_cases b : u = r' <;> by_cases e : v = c <;> by_cases f : v = d <;> simp [a, b, e, f] <;> (try omega) <;> (try (intros; omega))
theorem swt_ans {s : Sh} (w : WS s) {q r r' c d : Nat} (hr : r < sH s) (hr' : r' < sH s) (hc : c < sW s) (hd : d < sW s) (hs : swc s q r r' c d = true) (hq : q ∈ ans s) : swt s q r r' c d ∈ ans s := by
  obtain ⟨hne, hcd⟩ := swc_ne hs
  have hg := hs
  unfold swc at hg
  rw [Bool.and_eq_true, gv_iff, gv_iff] at hg
  obtain ⟨⟨a1, a2, a3, a4⟩, b1, b2, b3, b4⟩ := hg
  unfold ans ans0 at hq ⊢
  rw [List.mem_filter, List.mem_filter, List.mem_range] at hq ⊢
  obtain ⟨⟨q1, q2⟩, q3⟩ := hq
  refine ⟨⟨swt_lt w q1, ?_⟩, ?_⟩
  · unfold isAns0 at q2 ⊢
    rw [Bool.and_eq_true, List.all_eq_true, List.all_eq_true] at q2 ⊢
    refine ⟨fun u hu => ?_, fun v hv => ?_⟩
    · have h1 := q2.1 u hu
      rw [List.mem_range] at hu
      rw [beq_iff_eq] at h1 ⊢
      rw [← h1]
      by_cases cr : u = r
      · subst cr
        refine ct_two _ _ hc hd hcd a1 b2 fun k hk => ?_
        rw [swt_row hu hr' hc hd hne hcd hu hk, if_pos (Or.inl rfl)]
        by_cases e1 : k = c
        · rw [if_pos (Or.inl e1), if_pos e1, e1, a1]; rfl
        · rw [if_neg e1]
          by_cases e2 : k = d
          · rw [if_pos (Or.inr e2), if_pos e2, e2, b2]; rfl
          · rw [if_neg (fun x => x.elim e1 e2), if_neg e2]
      · by_cases cr' : u = r'
        · subst cr'
          refine ct_two _ _ hd hc (Ne.symm hcd) b1 a2 fun k hk => ?_
          rw [swt_row hr hu hc hd hne hcd hu hk, if_pos (Or.inr rfl)]
          by_cases e2 : k = d
          · rw [if_pos (Or.inr e2), if_pos e2, e2, b1]; rfl
          · rw [if_neg e2]
            by_cases e1 : k = c
            · rw [if_pos (Or.inl e1), if_pos e1, e1, a2]; rfl
            · rw [if_neg (fun x => x.elim e1 e2), if_neg e1]
        · refine fb_ct_cong fun k hk => ?_
          rw [swt_row hr hr' hc hd hne hcd hu hk, if_neg (fun x => x.elim cr cr')]
    · have h1 := q2.2 v hv
      rw [List.mem_range] at hv
      rw [beq_iff_eq] at h1 ⊢
      rw [← h1]
      by_cases cr : v = c
      · subst cr
        refine ct_two _ _ hr hr' hne a1 a2 fun k hk => ?_
        rw [swt_row hr hr' hv hd hne hcd hk hv]
        by_cases e1 : k = r
        · rw [if_pos (Or.inl e1), if_pos (Or.inl rfl), if_pos e1, e1, a1]; rfl
        · rw [if_neg e1]
          by_cases e2 : k = r'
          · rw [if_pos (Or.inr e2), if_pos (Or.inl rfl), if_pos e2, e2, a2]; rfl
          · rw [if_neg (fun x => x.elim e1 e2), if_neg e2]
      · by_cases cr' : v = d
        · subst cr'
          refine ct_two _ _ hr' hr (Ne.symm hne) b1 b2 fun k hk => ?_
          rw [swt_row hr hr' hc hv hne hcd hk hv]
          by_cases e2 : k = r'
          · rw [if_pos (Or.inr e2), if_pos (Or.inr rfl), if_pos e2, e2, b1]; rfl
          · rw [if_neg e2]
            by_cases e1 : k = r
            · rw [if_pos (Or.inl e1), if_pos (Or.inr rfl), if_pos e1, e1, b2]; rfl
            · rw [if_neg (fun x => x.elim e1 e2), if_neg e1]
        · refine fb_ct_cong fun k hk => ?_
          rw [swt_row hr hr' hc hd hne hcd hk hv]
          rw [if_neg (show ¬ (v = c ∨ v = d) from fun x => x.elim cr cr')]
          split <;> rfl
  · unfold isPin at q3 ⊢
    rw [List.all_eq_true] at q3 ⊢
    intro k hk
    have h1 := q3 k hk
    rw [List.mem_range] at hk
    by_cases z : sP s k = 0
    · simp [z]
    · have : cb s (swt s q r r' c d) k = cb s q k := by
        rw [cb_swt hr hr' hc hd hk]
        have e1 : ¬ k = sW s * r + c := fun e => z (e ▸ a3)
        have e2 : ¬ k = sW s * r' + d := fun e => z (e ▸ b3)
        have e3 : ¬ k = sW s * r + d := fun e => z (e ▸ b4)
        have e4 : ¬ k = sW s * r' + c := fun e => z (e ▸ a4)
        simp [e1, e2, e3, e4]
      rw [this]
      exact h1
/-! the model's four cells -/
theorem mbit_eq {h : mH} {p r c : Nat} {s : Sh} (w : WS s) (m : MS h p 0 s) (hr : r < sH s) (hc : c < sW s) : x_X9_bit p (nI r) (nI c) h = some (nI (pB s (sW s * r + c))) := by
  have n20 := w.n20
  have k1 := cell_lt hr hc
  have e1 := m.2.1
  rw [Nat.zero_add] at e1
  unfold x_X9_bit
  rw [cells_eq m]
  simp only [Option.bind_some]
  rw [e1, pk_mul, nI_add, sub1 (by omega), show (1 : Int32) = nI 1 from rfl, shl_nI _ _ (by omega), Nat.one_mul]
  rfl
theorem bt_two {s : Sh} (w : WS s) {j k i : Nat} (hi : i < 32) : bt (nI (pB s j) ||| nI (pB s k)) i = (decide (sN s - 1 - j = i) || decide (sN s - 1 - k = i)) := by
  rw [b_or, bt_nI _ _ hi, bt_nI _ _ hi]
  unfold pB
  rw [Nat.testBit_two_pow, Nat.testBit_two_pow]
theorem and_yes {s : Sh} (w : WS s) (q j k : Nat) : nI q &&& (nI (pB s j) ||| nI (pB s k)) = (nI (pB s j) ||| nI (pB s k)) ↔ cb s q j = true ∧ cb s q k = true := by
  have n20 := w.n20
  rw [and_eq_iff]
  unfold cb
  constructor
  · intro H
    refine ⟨?_, ?_⟩
    · have := H (sN s - 1 - j) (by omega) (by rw [bt_two w (by omega)]; simp)
      rwa [bt_nI _ _ (by omega)] at this
    · have := H (sN s - 1 - k) (by omega) (by rw [bt_two w (by omega)]; simp)
      rwa [bt_nI _ _ (by omega)] at this
  · rintro ⟨a, b⟩ i hi H
    rw [bt_two w hi, Bool.or_eq_true, decide_eq_true_eq, decide_eq_true_eq] at H
    rw [bt_nI _ _ hi]
    rcases H with e | e
    · rw [← e]; exact a
    · rw [← e]; exact b
theorem and_no {s : Sh} (w : WS s) (q j k : Nat) : nI q &&& (nI (pB s j) ||| nI (pB s k)) = 0 ↔ cb s q j = false ∧ cb s q k = false := by
  have n20 := w.n20
  unfold cb
  constructor
  · intro H
    have K : ∀ i, i < 32 → (q.testBit i && (decide (sN s - 1 - j = i) || decide (sN s - 1 - k = i))) = false := fun i hi => by
      have := congrArg (fun x => bt x i) H
      simp only [b_and, b_0] at this
      rwa [bt_two w hi, bt_nI _ _ hi] at this
    refine ⟨?_, ?_⟩
    · have := K (sN s - 1 - j) (by omega)
      simpa using this
    · have := K (sN s - 1 - k) (by omega)
      simpa using this
  · rintro ⟨a, b⟩
    refine b_ext fun i hi => ?_
    rw [b_and, b_0, bt_two w hi, bt_nI _ _ hi]
    by_cases c1 : sN s - 1 - j = i
    · rw [← c1, a, Bool.false_and]
    · by_cases c2 : sN s - 1 - k = i
      · rw [← c2, b, Bool.false_and]
      · simp [c1, c2]
theorem mpin_at {h : mH} {p k : Nat} {s : Sh} (w : WS s) (m : MS h p 0 s) (hk : k < sN s) : mgi h p (11 + k) = nI (sP s k) := by
  have := m.2.2.2.2.1 k hk
  rwa [Nat.zero_add] at this
theorem four68_eq {h : mH} {p r r' c d q : Nat} {s : Sh} (w : WS s) (m : MS h p 0 s) (p1 : s.2 = some q) (hq : q < 2 ^ sN s) (hr : r < sH s) (hr' : r' < sH s) (hc : c < sW s) (hd : d < sW s) (s0 : Int32) : x_X9_four_68 p (nI r) (nI r') (nI c) (nI d) s0 h = some (if s0 = 0 then 0 else if r ≠ r' ∧ c ≠ d ∧ (cb s q (sW s * r + c) = true ∧ cb s q (sW s * r' + d) = true) ∧ (cb s q (sW s * r + d) = false ∧ cb s q (sW s * r' + c) = false) then nI (fourN s r r' c d) else 0) := by
  have q20 := pw20 w hq
  have h4 := w.2.1
  have w5 := w.2.2.2.1
  unfold x_X9_four_68
  rw [mbit_eq w m hr hc, mbit_eq w m hr' hd, mbit_eq w m hr hd, mbit_eq w m hr' hc]
  simp only [Option.bind_some, mlet_eq]
  rw [m.pl, plM_some p1, if_neg (nI_n9 (by omega))]
  congr 1
  by_cases hs0 : s0 = 0
  · simp [hs0]
  · rw [if_neg hs0, if_neg hs0]
    by_cases c1 : r = r'
    · simp [c1]
    · rw [if_neg (fun e => c1 ((nI_eq (by omega) (by omega)).mp e))]
      by_cases c2 : c = d
      · simp [c2]
      · rw [if_neg (fun e => c2 ((nI_eq (by omega) (by omega)).mp e))]
        by_cases c3 : cb s q (sW s * r + c) = true ∧ cb s q (sW s * r' + d) = true
        · rw [if_neg (not_not_intro ((and_yes w _ _ _).mpr c3))]
          by_cases c4 : cb s q (sW s * r + d) = false ∧ cb s q (sW s * r' + c) = false
          · rw [if_neg (not_not_intro ((and_no w _ _ _).mpr c4)), if_neg (by decide), if_pos ⟨c1, c2, c3, c4⟩, fa_or, fa_or, fa_or]
            rfl
          · have n4 : ¬ (nI q &&& (nI (pB s (sW s * r + d)) ||| nI (pB s (sW s * r' + c))) = 0) := fun e => c4 ((and_no w _ _ _).mp e)
            rw [if_pos n4, if_pos rfl, if_neg (fun e => c4 e.2.2.2)]
        · have n3 : ¬ (nI q &&& (nI (pB s (sW s * r + c)) ||| nI (pB s (sW s * r' + d))) = (nI (pB s (sW s * r + c)) ||| nI (pB s (sW s * r' + d)))) := fun e => c3 ((and_yes w _ _ _).mp e)
          rw [if_pos n3, if_pos rfl, if_neg (fun e => c3 e.2.2.1)]
theorem four_ix {r c W : Nat} : ((11 : Int32) + nI W * nI r) + nI c = nI (11 + (W * r + c)) := by
  rw [show (11 : Int32) = nI 11 from rfl, pk_mul, nI_add, nI_add, Nat.add_assoc]
theorem four_some {h : mH} {p r r' c d q : Nat} {s : Sh} (w : WS s) (m : MS h p 0 s) (p1 : s.2 = some q) (hq : q < 2 ^ sN s) (hr : r < sH s) (hr' : r' < sH s) (hc : c < sW s) (hd : d < sW s) : x_X9_four p (nI r) (nI r') (nI c) (nI d) h = some (if swc s q r r' c d then nI (fourN s r r' c d) else 0) := by
  have n20 := w.n20
  have k1 := cell_lt hr hc
  have k2 := cell_lt hr' hd
  have k3 := cell_lt hr hd
  have k4 := cell_lt hr' hc
  have pl : ∀ k, k < sN s → sP s k < 2 ^ 31 := fun k hk => Nat.lt_of_le_of_lt (w.2.2.2.2.2.2.1 k hk) (by decide)
  have e1 := m.2.1
  rw [Nat.zero_add] at e1
  unfold x_X9_four x_X9_four_67
  simp only [mlet_eq]
  rw [e1, four_ix, four_ix, four_ix, four_ix, mck_ok (vp_in_nI (by omega) (by decide)), mck_ok (vp_in_nI (by omega) (by decide)), mck_ok (vp_in_nI (by omega) (by decide)), mck_ok (vp_in_nI (by omega) (by decide)), nI_clamp (by omega), nI_clamp (by omega), nI_clamp (by omega), nI_clamp (by omega), mpin_at w m k1, mpin_at w m k2, mpin_at w m k3, mpin_at w m k4]
  have no : swc s q r r' c d = true → sP s (sW s * r + c) = 0 ∧ sP s (sW s * r' + d) = 0 ∧ sP s (sW s * r + d) = 0 ∧ sP s (sW s * r' + c) = 0 := fun e => by
    unfold swc at e
    rw [Bool.and_eq_true, gv_iff, gv_iff] at e
    exact ⟨e.1.2.2.1, e.2.2.2.1, e.2.2.2.2, e.1.2.2.2⟩
  have z0 : ∀ (s0 : Int32), s0 = 0 → ¬ swc s q r r' c d = true → x_X9_four_68 p (nI r) (nI r') (nI c) (nI d) s0 h = some (if swc s q r r' c d then nI (fourN s r r' c d) else 0) := fun s0 e0 e1 => by
    rw [four68_eq w m p1 hq hr hr' hc hd, if_pos e0, if_neg e1]
  by_cases p1' : sP s (sW s * r + c) = 0
  · rw [if_neg (fun e => e (by rw [p1']; rfl))]
    by_cases p2 : sP s (sW s * r' + d) = 0
    · rw [if_neg (fun e => e (by rw [p2]; rfl))]
      by_cases p3 : sP s (sW s * r + d) = 0
      · rw [if_neg (fun e => e (by rw [p3]; rfl))]
        show x_X9_four_68 p (nI r) (nI r') (nI c) (nI d) (if ¬ nI (sP s (sW s * r' + c)) = 0 then 0 else 1) h = _
        by_cases p4 : sP s (sW s * r' + c) = 0
        · rw [if_neg (fun e => e (by rw [p4]; rfl)), four68_eq w m p1 hq hr hr' hc hd, if_neg (by decide)]
          congr 1
          by_cases sw : swc s q r r' c d = true
          · rw [if_pos sw]
            obtain ⟨n1, n2⟩ := swc_ne sw
            unfold swc at sw
            rw [Bool.and_eq_true, gv_iff, gv_iff] at sw
            rw [if_pos ⟨n1, n2, ⟨sw.1.1, sw.2.1⟩, sw.2.2.1, sw.1.2.1⟩]
          · rw [if_neg sw, if_neg]
            rintro ⟨-, -, ⟨x1, x2⟩, x3, x4⟩
            refine sw ?_
            unfold swc
            rw [Bool.and_eq_true, gv_iff, gv_iff]
            exact ⟨⟨x1, x4, p1', p4⟩, x2, x3, p2, p3⟩
        · exact z0 _ (by rw [if_pos (nI_ne0 (by omega) (pl _ k4))]) (fun e => p4 (no e).2.2.2)
      · rw [if_pos (nI_ne0 (by omega) (pl _ k3))]
        exact z0 _ rfl (fun e => p3 (no e).2.2.1)
    · rw [if_pos (nI_ne0 (by omega) (pl _ k2))]
      exact z0 _ rfl (fun e => p2 (no e).2.1)
  · rw [if_pos (nI_ne0 (by omega) (pl _ k1))]
    exact z0 _ rfl (fun e => p1' (no e).1)
theorem four_none {h : mH} {p r r' c d : Nat} {s : Sh} (w : WS s) (m : MS h p 0 s) (p1 : s.2 = none) (hr : r < sH s) (hr' : r' < sH s) (hc : c < sW s) (hd : d < sW s) : x_X9_four p (nI r) (nI r') (nI c) (nI d) h = some 0 := by
  have n20 := w.n20
  have k1 := cell_lt hr hc
  have k2 := cell_lt hr' hd
  have k3 := cell_lt hr hd
  have k4 := cell_lt hr' hc
  have e1 := m.2.1
  rw [Nat.zero_add] at e1
  have z : ∀ s0, x_X9_four_68 p (nI r) (nI r') (nI c) (nI d) s0 h = some 0 := fun s0 => by
    unfold x_X9_four_68
    rw [mbit_eq w m hr hc, mbit_eq w m hr' hd, mbit_eq w m hr hd, mbit_eq w m hr' hc]
    simp only [Option.bind_some, mlet_eq]
    rw [m.pl, plM_none p1, if_pos rfl, if_pos rfl]
  unfold x_X9_four x_X9_four_67
  simp only [mlet_eq]
  rw [e1, four_ix, four_ix, four_ix, four_ix, mck_ok (vp_in_nI (by omega) (by decide)), mck_ok (vp_in_nI (by omega) (by decide)), mck_ok (vp_in_nI (by omega) (by decide)), mck_ok (vp_in_nI (by omega) (by decide)), z]
  split
  · rfl
  · split
    · rfl
    · split
      · rfl
      · exact z _
