/-! numbers -/
def fac : Nat → Nat
  | 0 => 1
  | n + 1 => (n + 1) * fac n
theorem fac_1 (n : Nat) : fac (max (n + 1) 2 - 1) = fac n := by
  cases n with
  | zero => rfl
  | succ n => rw [show max (n + 1 + 1) 2 - 1 = n + 1 by omega]
theorem orders_eq {N n : Nat} (hN : 40 < N) (hn : n ≤ 10) : x_X5_orders N (nI n) = some (nI (fac n)) := by
  unfold x_X5_orders
  refine lpI (fun f (v : Int32) i => x_X5_orders_4 N (nI n) f v i) (fun k v => 2 ≤ k ∧ v = nI (fac (k - 1))) (fun o => o = some (nI (fac n))) (max (n + 1) 2) (fun f k v hk hv => ?_) (fun f v hv => ?_) N 2 1 (by omega) (by omega) ⟨Nat.le_refl _, rfl⟩
  · obtain ⟨k, rfl⟩ : ∃ m, k = m + 1 := ⟨k - 1, by omega⟩
    refine Or.inl ⟨nI (fac (k + 1)), ?_, by omega, rfl⟩
    show x_X5_orders_4 N (nI n) (f + 1) v (nI (k + 1)) = x_X5_orders_4 N (nI n) f (nI (fac (k + 1))) (nI (k + 1 + 1))
    rw [x_X5_orders_4_s, if_neg (nI_nlt (by omega) (by omega)), mlet_eq, hv.2, Nat.add_sub_cancel, pk_mul, nI_1, fac, Nat.mul_comm]
  · show x_X5_orders_4 N (nI n) (f + 1) v (nI (max (n + 1) 2)) = _
    rw [x_X5_orders_4_s, if_pos (nI_lt (by omega) (by omega)), hv.2, fac_1]
theorem factorial_eq {N n : Nat} (hN : 40 < N) (hn : n ≤ 10) : x_X9_factorial N (nI n) = some (nI (fac n)) := by
  unfold x_X9_factorial
  refine lpI (fun f (v : Int32) i => x_X9_factorial_4 N (nI n) f v i) (fun k v => 2 ≤ k ∧ v = nI (fac (k - 1))) (fun o => o = some (nI (fac n))) (max (n + 1) 2) (fun f k v hk hv => ?_) (fun f v hv => ?_) N 2 1 (by omega) (by omega) ⟨Nat.le_refl _, rfl⟩
  · obtain ⟨k, rfl⟩ : ∃ m, k = m + 1 := ⟨k - 1, by omega⟩
    refine Or.inl ⟨nI (fac (k + 1)), ?_, by omega, rfl⟩
    show x_X9_factorial_4 N (nI n) (f + 1) v (nI (k + 1)) = x_X9_factorial_4 N (nI n) f (nI (fac (k + 1))) (nI (k + 1 + 1))
    rw [x_X9_factorial_4_s, if_neg (nI_nlt (by omega) (by omega)), mlet_eq, hv.2, Nat.add_sub_cancel, pk_mul, nI_1, fac, Nat.mul_comm]
  · show x_X9_factorial_4 N (nI n) (f + 1) v (nI (max (n + 1) 2)) = _
    rw [x_X9_factorial_4_s, if_pos (nI_lt (by omega) (by omega)), hv.2, fac_1]
theorem power_eq {N a n : Nat} (hN : 40 < N) (hn : n ≤ 10) : x_X8_power N (nI a) (nI n) = some (nI (a ^ n)) := by
  unfold x_X8_power
  refine lpV (fun f (x : Int32) i => x_X8_power_4 N (nI a) (nI n) f x i) (fun k => nI (a ^ k)) n _ (fun f k hk => ?_) (fun f => ?_) (by omega)
  · show x_X8_power_4 N (nI a) (nI n) (f + 1) _ (nI k) = x_X8_power_4 N (nI a) (nI n) f _ (nI (k + 1))
    rw [x_X8_power_4_s, if_neg (nI_ge hk (by omega)), mlet_eq, nI_1, pk_mul, Nat.pow_succ]
  · show x_X8_power_4 N (nI a) (nI n) (f + 1) _ (nI n) = _
    rw [x_X8_power_4_s, if_pos (nI_le (Nat.le_refl _) (by omega))]
theorem mpower_eq {N a n : Nat} (hN : 40 < N) (hn : n ≤ 10) : x_X9_power N (nI a) (nI n) = some (nI (a ^ n)) := by
  unfold x_X9_power
  refine lpV (fun f (x : Int32) i => x_X9_power_4 N (nI a) (nI n) f x i) (fun k => nI (a ^ k)) n _ (fun f k hk => ?_) (fun f => ?_) (by omega)
  · show x_X9_power_4 N (nI a) (nI n) (f + 1) _ (nI k) = x_X9_power_4 N (nI a) (nI n) f _ (nI (k + 1))
    rw [x_X9_power_4_s, if_neg (nI_ge hk (by omega)), mlet_eq, nI_1, pk_mul, Nat.pow_succ]
  · show x_X9_power_4 N (nI a) (nI n) (f + 1) _ (nI n) = _
    rw [x_X9_power_4_s, if_pos (nI_le (Nat.le_refl _) (by omega))]
/-! the model's sets -/
def frMp (h h' : mH) : Prop := (∀ b k, b ≠ 99 → b ≠ 100 → b ≠ 92 → b ≠ 93 → b ≠ 94 → ¬ (b = 82 ∧ k = 17) → mgi h' b k = mgi h b k) ∧ ∀ b k, mgl h' b k = mgl h b k
theorem frMp.refl {h : mH} : frMp h h := ⟨fun _ _ _ _ _ _ _ _ => rfl, fun _ _ => rfl⟩
theorem frMp.trans {h h1 h2 : mH} (a : frMp h h1) (b : frMp h1 h2) : frMp h h2 := ⟨fun c k x1 x2 x3 x4 x5 x6 => (b.1 c k x1 x2 x3 x4 x5 x6).trans (a.1 c k x1 x2 x3 x4 x5 x6), fun c k => (b.2 c k).trans (a.2 c k)⟩
theorem frMp.ms {h h' : mH} {s : Sh} (f : frMp h h') (m : MS h 85 0 s) : MS h' 85 0 s := m.congr (fun k => f.1 85 k (by omega) (by omega) (by omega) (by omega) (by omega) (by omega))
theorem frMp_i {h : mH} {a k : Nat} {v : Int32} (ha : a = 99 ∨ a = 100) : frMp h (msi h a k v) := ⟨fun b j h1 h2 _ _ _ _ => by rw [mgi_msi, if_neg (by omega)], fun _ _ => rfl⟩
def ML (h : mH) (A : List Nat) : Prop := ∀ j, j < A.length → mgi h 99 j = nI (A.getD j 0)
theorem mlistPins {N : Nat} {s : Sh} {h : mH} (hN : 40 < N) (w : WS s) (ms : MS h 85 0 s) : ∃ h', x_X9_listPins N h = some (nI (pinN s), h') ∧ ML h' (pLs s) ∧ frMp h h' := by
  have n20 := w.n20
  have n6 : pinN s ≤ 6 := w.2.2.2.2.2.2.2
  unfold x_X9_listPins
  refine lpI (fun f (x : Int32 × mH) i => x_X9_listPins_4 N f x.1 i x.2) (fun k x => x.1 = nI ((List.range k).filter (fun k => sP s k != 0)).length ∧ ML x.2 ((List.range k).filter (fun k => sP s k != 0)) ∧ frMp h x.2) (fun o => ∃ h', o = some (nI (pinN s), h') ∧ ML h' (pLs s) ∧ frMp h h') (sN s) (fun f k x hk hx => ?_) (fun f x hx => ?_) N 0 (0, h) (by omega) (by omega) ⟨rfl, fun j hj => by simp at hj, frMp.refl⟩
  · obtain ⟨x1, x2, fr⟩ := hx
    have mx := fr.ms ms
    have pk := w.2.2.2.2.2.2.1 k hk
    have mono := filt_mono (fun k => sP s k != 0) (show k + 1 ≤ sN s from hk)
    rw [filt_succ, List.length_append] at mono
    have le6 : ((List.range (sN s)).filter (fun k => sP s k != 0)).length ≤ 6 := by rw [filt_len]; exact n6
    refine Or.inl ?_
    show ∃ x' : Int32 × mH, x_X9_listPins_4 N (f + 1) x.1 (nI k) x.2 = x_X9_listPins_4 N f x'.1 (nI (k + 1)) x'.2 ∧ _
    rw [x_X9_listPins_4_s, cells_eq mx, Option.bind_some, if_neg (nI_ge hk (by omega)), show (11 : Int32) + nI k = nI (11 + k) from nI_add 11 k, mck_ok (vp_in_nI (by omega) (by decide)), nI_clamp (by omega), mpin_at w mx hk]
    unfold x_X9_listPins_37
    by_cases c : sP s k = 0
    · refine ⟨x, by rw [if_pos (by rw [c]; decide), nI_1], ?_, ?_, fr⟩
      · rw [filt_succ, if_neg (by simp [c]), List.append_nil]; exact x1
      · rw [filt_succ, if_neg (by simp [c]), List.append_nil]; exact x2
    · have cp : (sP s k != 0) = true := by simp [c]
      rw [if_pos cp] at mono
      simp only [List.length_cons, List.length_nil] at mono
      refine ⟨(nI (((List.range k).filter (fun k => sP s k != 0)).length + 1), msi x.2 99 ((List.range k).filter (fun k => sP s k != 0)).length (nI k)), ?_, ?_, ?_, fr.trans (frMp_i (by omega))⟩
      · rw [if_neg (nI_nle (by omega) (by omega)), x1, mck_ok (vp_in_nI (by omega) (by decide)), nI_clamp (by omega), mlet_eq, nI_1, nI_1]
      · rw [filt_succ, if_pos cp, List.length_append]; rfl
      · rw [filt_succ, if_pos cp]
        intro j hj
        rw [getD_appN hj, mgi_msi]
        by_cases d : j = ((List.range k).filter (fun k => sP s k != 0)).length
        · rw [if_pos ⟨rfl, d⟩, if_pos d]
        · rw [if_neg (fun q => d q.2), if_neg d]
          refine x2 j ?_
          rw [List.length_append] at hj
          simp only [List.length_cons, List.length_nil] at hj
          omega
  · obtain ⟨x1, x2, fr⟩ := hx
    refine ⟨x.2, ?_, x2, fr⟩
    show x_X9_listPins_4 N (f + 1) x.1 (nI (sN s)) x.2 = _
    rw [x_X9_listPins_4_s, cells_eq (fr.ms ms), Option.bind_some, if_pos (nI_le (Nat.le_refl _) (by omega)), x1, filt_len]
    rfl
def hlB (s : Sh) (x t j : Nat) : Bool := (List.range j).all fun i => !(t.testBit i && brk s x ((pLs s).getD i 0))
theorem hlB_succ (s : Sh) (x t j : Nat) : hlB s x t (j + 1) = (hlB s x t j && !(t.testBit j && brk s x ((pLs s).getD j 0))) := by
  unfold hlB
  rw [List.range_succ, List.all_append]
  simp
theorem hlB_end (s : Sh) (x t : Nat) : hlB s x t (pinN s) = decide (t &&& brN s x = 0) := by
  rw [Bool.eq_iff_iff, decide_eq_true_eq]
  unfold hlB
  rw [List.all_eq_true]
  constructor
  · intro H
    refine Nat.eq_of_testBit_eq fun i => ?_
    rw [Nat.testBit_and, Nat.zero_testBit]
    unfold brN
    rw [stN_bit]
    by_cases c : i < pinN s
    · have := H i (List.mem_range.mpr c)
      rw [decide_eq_true c, Bool.true_and]
      simpa only [Bool.not_eq_true'] using this
    · simp [c]
  · intro H i hi
    rw [List.mem_range] at hi
    have := congrArg (fun z => z.testBit i) H
    simp only [Nat.testBit_and, Nat.zero_testBit] at this
    unfold brN at this
    rw [stN_bit, decide_eq_true hi, Bool.true_and] at this
    rw [this]; rfl
theorem holds_eq {N x t : Nat} {s : Sh} {h : mH} (hN : 40 < N) (w : WS s) (ms : MS h 85 0 s) (ml : ML h (pLs s)) : x_X9_holds N (nI x) (nI t) (nI (pinN s)) h = some (b2i (decide (t &&& brN s x = 0))) := by
  have n20 := w.n20
  have n6 : pinN s ≤ 6 := w.2.2.2.2.2.2.2
  rw [← hlB_end]
  unfold x_X9_holds
  refine lpV (fun f (v : Int32) i => x_X9_holds_6 N (nI x) (nI t) (nI (pinN s)) h f v i) (fun j => b2i (hlB s x t j)) (pinN s) _ (fun f j hj => ?_) (fun f => ?_) (by omega)
  · obtain ⟨k1, k2⟩ := pLs_at hj
    have pk := w.2.2.2.2.2.2.1 _ k1
    show x_X9_holds_6 N (nI x) (nI t) (nI (pinN s)) h (f + 1) (b2i (hlB s x t j)) (nI j) = x_X9_holds_6 N (nI x) (nI t) (nI (pinN s)) h f (b2i (hlB s x t (j + 1))) (nI (j + 1))
    rw [x_X9_holds_6_s, if_neg (nI_ge hj (by omega)), hlB_succ]
    unfold x_X9_holds_72 x_X9_holds_68 x_X9_holds_73
    cases e : hlB s x t j with
    | false => rw [if_pos (show b2i false = 0 from rfl), nI_1, Bool.false_and]; rfl
    | true =>
      rw [if_neg (show ¬ b2i true = 0 by decide), has_eq _ _ (by omega), Option.bind_some, Bool.true_and]
      by_cases c : t.testBit j = true
      · have mk : mgi h 99 j = nI ((pLs s).getD j 0) := ml j (by rw [pLs_len]; exact hj)
        rw [if_pos c, if_neg (by decide), mck_ok (vp_in_nI (by omega) (by decide)), nI_clamp (by omega), mk, isYes_eq ms w _ _ k1, Option.bind_some, mck_ok (vp_in_nI (by omega) (by decide)), show (11 : Int32) + nI ((pLs s).getD j 0) = nI (11 + (pLs s).getD j 0) from nI_add 11 _, mck_ok (vp_in_nI (by omega) (by decide)), nI_clamp (by omega), mpin_at w ms k1, mlet_eq, nI_1, c, Bool.true_and]
        congr 1
        unfold brk
        have e1 : (nI (sP s ((pLs s).getD j 0)) = 1) ↔ sP s ((pLs s).getD j 0) = 1 := nI_eq (b := 1) (by omega) (by decide)
        by_cases d : sP s ((pLs s).getD j 0) = 1
        · rw [if_neg (not_not_intro (e1.mpr d)), beq_iff_eq.mpr d]
          cases cb s x ((pLs s).getD j 0) <;> rfl
        · rw [if_pos (fun q => d (e1.mp q)), beq_eq_false_iff_ne.mpr d]
          cases cb s x ((pLs s).getD j 0) <;> rfl
      · have c' : t.testBit j = false := by simpa using c
        rw [if_neg c, if_pos rfl, nI_1, c', Bool.false_and]
        rfl
  · show x_X9_holds_6 N (nI x) (nI t) (nI (pinN s)) h (f + 1) (b2i (hlB s x t (pinN s))) (nI (pinN s)) = _
    rw [x_X9_holds_6_s, if_pos (nI_le (Nat.le_refl _) (by omega))]
    unfold mzc
    cases hlB s x t (pinN s) <;> rfl
def WT (h : mH) (s : Sh) : Prop := ∀ t, t < 2 ^ pinN s → mgi h 100 t = nI (lft s t)
theorem mweigh {N : Nat} {s : Sh} {h : mH} (hN : 1000 < N) (w : WS s) (ms : MS h 85 0 s) : ∃ h', x_X9_weigh N h = some (nI (pinN s), h') ∧ ML h' (pLs s) ∧ WT h' s ∧ frMp h h' := by
  have n6 : pinN s ≤ 6 := w.2.2.2.2.2.2.2
  have q64 := p64 n6
  have l310 := ans0_310 w
  unfold x_X9_weigh
  obtain ⟨h1, e1, ml1, f1⟩ := mlistPins (N := N) (by omega) w ms
  have ms1 := f1.ms ms
  obtain ⟨h2, e2, l2, f2⟩ := list_eq (N := N) (p := 85) false (by omega) (by decide) w ms1
  have l2' : LsA h2 (ans0 s) := by simpa using l2
  have e2' : x_X9_list N 85 0 h1 = some h2 := e2
  have f2' : frMp h1 h2 := ⟨fun b k x1 x2 x3 x4 x5 x6 => f2.1 b k x3 x4 x5 x6, f2.2⟩
  have ml2 : ML h2 (pLs s) := fun j hj => by rw [f2.1 99 j (by omega) (by omega) (by omega) (by omega)]; exact ml1 j hj
  rw [e1, Option.bind_some, mlet_eq, e2', Option.bind_some]
  refine lpI (fun f (y : mH) i => x_X9_weigh_16 N (nI (pinN s)) f i y) (fun t y => (∀ b k, b ≠ 100 → mgi y b k = mgi h2 b k) ∧ (∀ b k, mgl y b k = mgl h2 b k) ∧ ∀ b, b < t → mgi y 100 b = nI (lft s b)) (fun o => ∃ h', o = some (nI (pinN s), h') ∧ ML h' (pLs s) ∧ WT h' s ∧ frMp h h') (2 ^ pinN s) (fun f t y ht hy => ?_) (fun f y hy => ?_) N 0 h2 (Nat.zero_le _) (by omega) ⟨fun _ _ _ => rfl, fun _ _ => rfl, fun b hb => by omega⟩
  · obtain ⟨y1, y2, y3⟩ := hy
    show (∃ y' : mH, x_X9_weigh_16 N (nI (pinN s)) (f + 1) (nI t) y = x_X9_weigh_16 N (nI (pinN s)) f (nI (t + 1)) y' ∧ _) ∨ _
    rw [x_X9_weigh_16_s, pw6 _ (by omega), if_neg (nI_ge ht (by omega)), mck_ok (vp_in_nI (by omega) (by decide)), nI_clamp (by omega), mlet_eq]
    refine Or.inl (lpI (fun g (x : mH) i => x_X9_weigh_32 N (x_X9_weigh_16 N (nI (pinN s)) f) (nI (pinN s)) (nI t) g i x) (fun k x => (∀ b k, b ≠ 100 → mgi x b k = mgi h2 b k) ∧ (∀ b k, mgl x b k = mgl h2 b k) ∧ (∀ b, b < t → mgi x 100 b = nI (lft s b)) ∧ mgi x 100 t = nI (fb_ct (fun j => decide (t &&& brN s ((ans0 s).getD j 0) = 0)) k)) (fun o => ∃ y' : mH, o = x_X9_weigh_16 N (nI (pinN s)) f (nI (t + 1)) y' ∧ (∀ b k, b ≠ 100 → mgi y' b k = mgi h2 b k) ∧ (∀ b k, mgl y' b k = mgl h2 b k) ∧ ∀ b, b < t + 1 → mgi y' 100 b = nI (lft s b)) (ans0 s).length (fun g k x hk hx => ?_) (fun g x hx => ?_) N 0 (msi y 100 t 0) (by omega) (by omega) ⟨fun b k hb => by rw [mgi_msi, if_neg (by omega)]; exact y1 b k hb, fun b k => y2 b k, fun b hb => by rw [mgi_msi, if_neg (by omega)]; exact y3 b hb, by rw [mgi_same]; rfl⟩)
    · obtain ⟨x1, x2, x3, x4⟩ := hx
      have e17 : mgi x 82 17 = nI (ans0 s).length := by rw [x1 82 17 (by decide)]; exact l2'.1
      have e94 : mgi x 94 k = nI ((ans0 s).getD k 0) := by rw [x1 94 k (by decide)]; exact l2'.2 k hk
      have msx : MS x 85 0 s := (f2'.ms ms1).congr (fun j => x1 85 j (by decide))
      have mlx : ML x (pLs s) := fun j hj => by rw [x1 99 j (by decide)]; exact ml2 j hj
      refine Or.inl ⟨msi x 100 t (nI (fb_ct (fun j => decide (t &&& brN s ((ans0 s).getD j 0) = 0)) (k + 1))), ?_, fun b j hb => by rw [mgi_msi, if_neg (by omega)]; exact x1 b j hb, fun b j => x2 b j, fun b hb => by rw [mgi_msi, if_neg (by omega)]; exact x3 b hb, by rw [mgi_same]⟩
      show x_X9_weigh_32 N (x_X9_weigh_16 N (nI (pinN s)) f) (nI (pinN s)) (nI t) (g + 1) (nI k) x = x_X9_weigh_32 N (x_X9_weigh_16 N (nI (pinN s)) f) (nI (pinN s)) (nI t) g (nI (k + 1)) _
      rw [x_X9_weigh_32_s, e17, if_neg (nI_ge hk (by omega)), mck_ok (vp_in_nI (by omega) (by decide)), mck_ok (vp_in_nI (by omega) (by decide)), nI_clamp (by omega), nI_clamp (by omega), e94, holds_eq (by omega) w msx mlx, Option.bind_some, mck_ok (vp_in_nI (by omega) (by decide)), mlet_eq, x4, nI_1, fb_ct_succ]
      congr 2
      by_cases c : t &&& brN s ((ans0 s).getD k 0) = 0
      · have c' : decide (t &&& brN s ((ans0 s).getD k 0) = 0) = true := decide_eq_true c
        rw [c', if_neg (by decide), if_pos rfl, nI_1]
      · have c' : decide (t &&& brN s ((ans0 s).getD k 0) = 0) = false := decide_eq_false c
        rw [c', if_pos (show b2i false = 0 from rfl), if_neg (by decide)]
        show nI _ + nI 0 = _
        rw [nI_add]
    · obtain ⟨x1, x2, x3, x4⟩ := hx
      have e17 : mgi x 82 17 = nI (ans0 s).length := by rw [x1 82 17 (by decide)]; exact l2'.1
      refine ⟨x, ?_, x1, x2, fun b hb => ?_⟩
      · show x_X9_weigh_32 N (x_X9_weigh_16 N (nI (pinN s)) f) (nI (pinN s)) (nI t) (g + 1) (nI (ans0 s).length) x = _
        rw [x_X9_weigh_32_s, e17, if_pos (nI_le (Nat.le_refl _) (by omega)), nI_1]
      · by_cases d : b = t
        · rw [d, x4]; rfl
        · exact x3 b (by omega)
  · obtain ⟨y1, y2, y3⟩ := hy
    refine ⟨y, ?_, fun j hj => by rw [y1 99 j (by decide)]; exact ml2 j hj, y3, f1.trans (f2'.trans ⟨fun b k x1 x2 _ _ _ _ => y1 b k x2, y2⟩)⟩
    show x_X9_weigh_16 N (nI (pinN s)) (f + 1) (nI (2 ^ pinN s)) y = _
    rw [x_X9_weigh_16_s, pw6 _ (by omega), if_pos (nI_le (Nat.le_refl _) (by omega))]
/-! loose -/
def lsT (s : Sh) (x t : Nat) : Nat := if lft s t = 1 then (10 - x) ^ bc t 20 * x ^ (pinN s - bc t 20) else 0
theorem bc_pin {s : Sh} {t : Nat} (h6 : pinN s ≤ 6) (ht : t < 2 ^ pinN s) : bc t 20 ≤ pinN s ∧ bc t 6 = bc t 20 := by
  have e1 : bc t 20 = bc t (pinN s) := bc_small ht (by omega)
  have e2 : bc t 6 = bc t (pinN s) := bc_small ht h6
  exact ⟨by rw [e1]; exact bc_le _ _, by rw [e1, e2]⟩
theorem lsT_le {s : Sh} (h6 : pinN s ≤ 6) {x t : Nat} (hx : x ≤ 10) (ht : t < 2 ^ pinN s) : lsT s x t ≤ 1000000 := by
  unfold lsT
  by_cases c : lft s t = 1
  · rw [if_pos c]
    have b1 := (bc_pin h6 ht).1
    have a1 : (10 - x) ^ bc t 20 ≤ 10 ^ bc t 20 := Nat.pow_le_pow_left (by omega) _
    have a2 : x ^ (pinN s - bc t 20) ≤ 10 ^ (pinN s - bc t 20) := Nat.pow_le_pow_left hx _
    refine Nat.le_trans (Nat.mul_le_mul a1 a2) ?_
    rw [← Nat.pow_add, show bc t 20 + (pinN s - bc t 20) = pinN s by omega]
    exact Nat.le_trans (Nat.pow_le_pow_right (by decide) h6) (by decide)
  · rw [if_neg c]; omega
theorem pow10 {p : Nat} (h : p ≤ 6) : 10 ^ p ≤ 1000000 ∧ 0 < 10 ^ p := ⟨Nat.le_trans (Nat.pow_le_pow_right (by decide) h) (by decide), Nat.pow_pos (by decide)⟩
theorem chances_eq {N x : Nat} {s : Sh} {h : mH} (hN : 1000 < N) (w : WS s) (pl : PL h (pLs s)) (lf : LF h s) (hx : x ≤ 10) : x_X5_chancesOfOne N (nI x) h = some (nI (fb_sm (lsT s x) (2 ^ pinN s))) := by
  have n6 : pinN s ≤ 6 := w.2.2.2.2.2.2.2
  have q64 := p64 n6
  unfold x_X5_chancesOfOne
  refine lpV (fun f (v : Int32) i => x_X5_chancesOfOne_4 N (nI x) h f v i) (fun t => nI (fb_sm (lsT s x) t)) (2 ^ pinN s) _ (fun f t ht => ?_) (fun f => ?_) (by omega)
  · show x_X5_chancesOfOne_4 N (nI x) h (f + 1) _ (nI t) = x_X5_chancesOfOne_4 N (nI x) h f _ (nI (t + 1))
    obtain ⟨b1, b2⟩ := bc_pin n6 ht
    have ll := lft_le w t
    have t64 : t < 2 ^ 6 := by have : (2 : Nat) ^ 6 = 64 := rfl; omega
    rw [x_X5_chancesOfOne_4_s, pl.1, pLs_len, pw6 _ (by omega), if_neg (nI_ge ht (by omega)), mck_ok (vp_in_nI (by omega) (by decide)), nI_clamp (by omega), lf t ht, fb_sm_succ]
    unfold x_X5_chancesOfOne_54
    unfold lsT
    by_cases c : lft s t = 1
    · rw [if_neg (not_not_intro (by rw [c]; rfl)), bcnt (n := 6) t64 (by decide), Option.bind_some, show (10 : Int32) - nI x = nI (10 - x) from by rw [show (10 : Int32) = nI 10 from rfl, pk_sub hx], b2, power_eq (by omega) (by omega), Option.bind_some, pk_sub b1, power_eq (by omega) (by omega), Option.bind_some, mlet_eq, pk_mul, nI_add, nI_1, if_pos c]
    · rw [if_pos (show ¬ nI (lft s t) = (1 : Int32) from fun q => c ((nI_eq (b := 1) (by omega) (by decide)).mp q)), nI_1, if_neg c]
      rfl
  · show x_X5_chancesOfOne_4 N (nI x) h (f + 1) _ (nI (2 ^ pinN s)) = _
    rw [x_X5_chancesOfOne_4_s, pl.1, pLs_len, pw6 _ (by omega), if_pos (nI_le (Nat.le_refl _) (by omega))]
theorem mloose_eq {N x : Nat} {s : Sh} {h : mH} {u : Int32} (hN : 1000 < N) (w : WS s) (wt : WT h s) (hx : x ≤ 10) : x_X9_loose_31 N (nI x) u (nI (pinN s)) N 0 0 h = some (frac (fb_sm (lsT s x) (2 ^ pinN s)) (10 ^ pinN s) u, h) := by
  have n6 : pinN s ≤ 6 := w.2.2.2.2.2.2.2
  have q64 := p64 n6
  obtain ⟨t1, t2⟩ := pow10 n6
  have sb : fb_sm (lsT s x) (2 ^ pinN s) ≤ 2 ^ pinN s * 1000000 := fb_sm_bound fun t ht => lsT_le n6 hx ht
  refine lpV (fun f (v : Int32) i => x_X9_loose_31 N (nI x) u (nI (pinN s)) f v i h) (fun t => nI (fb_sm (lsT s x) t)) (2 ^ pinN s) _ (fun f t ht => ?_) (fun f => ?_) (by omega)
  · show x_X9_loose_31 N (nI x) u (nI (pinN s)) (f + 1) _ (nI t) h = x_X9_loose_31 N (nI x) u (nI (pinN s)) f _ (nI (t + 1)) h
    obtain ⟨b1, b2⟩ := bc_pin n6 ht
    have ll := lft_le w t
    rw [x_X9_loose_31_s, pw6 _ (by omega), if_neg (nI_ge ht (by omega)), ones_eq (by omega), Option.bind_some, mck_ok (vp_in_nI (by omega) (by decide)), nI_clamp (by omega), wt t ht, fb_sm_succ]
    unfold x_X9_loose_81
    unfold lsT
    by_cases c : lft s t = 1
    · rw [if_neg (not_not_intro (by rw [c]; rfl)), show (10 : Int32) - nI x = nI (10 - x) from by rw [show (10 : Int32) = nI 10 from rfl, pk_sub hx], mpower_eq (by omega) (by omega), Option.bind_some, pk_sub b1, mpower_eq (by omega) (by omega), Option.bind_some, mlet_eq, pk_mul, nI_add, nI_1, if_pos c]
    · rw [if_pos (show ¬ nI (lft s t) = (1 : Int32) from fun q => c ((nI_eq (b := 1) (by omega) (by decide)).mp q)), mlet_eq, nI_1, if_neg c]
      show x_X9_loose_31 N (nI x) u (nI (pinN s)) f (nI _ + nI 0) _ h = _
      rw [nI_add]
  · show x_X9_loose_31 N (nI x) u (nI (pinN s)) (f + 1) _ (nI (2 ^ pinN s)) h = _
    rw [x_X9_loose_31_s, pw6 _ (by omega), if_pos (nI_le (Nat.le_refl _) (by omega)), show (10 : Int32) = nI 10 from rfl, mpower_eq (by omega) (by omega), Option.bind_some, fraction_eq (by omega) (by omega) t2 (by omega)]
    rfl
theorem S_loose {N t : Nat} {h : mH} {z : St} (hN : 1000 < N) (hw : WF z) (hc : IC t h z) (hm : IM h z) (a u : Int32) : GW t (xcW (x_X8_loose N a u h) (fun h1 => x_X9_loose N a u h1)) := by
  have w := hw.2.1.1
  have n6 : pinN z.2.1 ≤ 6 := w.2.2.2.2.2.2.2
  have q64 := p64 n6
  obtain ⟨t1, t2⟩ := pow10 n6
  have F0 : ∀ h1, frM h1 (msi h1 82 0 0) := fun h1 => frM_i (by decide)
  rcases in_cases a (n := 11) (by decide) with ⟨x, hx, rfl⟩ | ⟨ca, na⟩
  · have hcl : ∃ k, k < 10 + 1 ∧ nI x = nI k := ⟨x, hx, rfl⟩
    have sb : fb_sm (lsT z.2.1 x) (2 ^ pinN z.2.1) ≤ 2 ^ pinN z.2.1 * 1000000 := fb_sm_bound fun t ht => lsT_le n6 (by omega) ht
    refine ok_W (r := frac (fb_sm (lsT z.2.1 x) (2 ^ pinN z.2.1)) (10 ^ pinN z.2.1) u) (z' := z) hm hw ?_ (fun h1 hm1 => ?_)
    · obtain ⟨h2, e1, e2, e3, e4⟩ := cweigh hN w hc.2.1 hc.2.2.1
      refine ⟨h2, ?_, IC.next (hc.scr' (fun b k hb => e4.1 b k (by unfold icb at hb; omega)) e4.2), fun b hb => ⟨fun k => e4.1 b k (by omega), fun k => e4.2 b k⟩⟩
      unfold x_X8_loose
      rw [if_neg (nI_pos (by omega)), if_pos (show nI x ≤ (10 : Int32) from nI_le (b := 10) (by omega) (by decide)), e1, Option.bind_some, chances_eq hN w e2 e3 (by omega), Option.bind_some, e2.1, pLs_len, show (10 : Int32) = nI 10 from rfl, power_eq (by omega) (by omega), Option.bind_some, least_eq (by omega) (by omega) t2 (by omega)]
      rfl
    · have i1 := hm1.thr 0
      obtain ⟨h2, e1, e2, e3, e4⟩ := mweigh hN w i1.2.1
      refine ⟨h2, ?_, i1.scr (fun b hb k => e4.1 b k (by omega) (by omega) (by omega) (by omega) (by omega) (by omega)) (fun k hk => e4.1 82 k (by omega) (by omega) (by omega) (by omega) (by omega) (by omega)) (fun k => e4.2 82 k), (F0 h1).trans (fun b hb => ⟨fun k => e4.1 b k (by omega) (by omega) (by omega) (by omega) (by omega) (by omega), fun k => e4.2 b k⟩)⟩
      unfold x_X9_loose
      simp only [mlet_eq]
      rw [show (10 : Int64) = (nI 10).toInt64 by decide, inN _ (by decide), Option.bind_some, if_pos hcl, if_pos (by decide), e1, Option.bind_some]
      exact mloose_eq hN w e3 (by omega)
  · refine ok_W (r := -2) (z' := z) hm hw ⟨h, ?_, hc.next, frC.rfl⟩ (fun h1 hm1 => ⟨_, ?_, hm1.thr 0, F0 h1⟩)
    · unfold x_X8_loose
      by_cases q : a < 0
      · rw [if_pos q]
      · rw [if_neg q, if_neg]
        intro r
        obtain ⟨j, hj, rfl⟩ := nI_of q
        exact na ⟨j, by have := (nI_leI (b := 10) hj (by decide)).mp r; omega, rfl⟩
    · unfold x_X9_loose
      simp only [mlet_eq]
      rw [show (10 : Int64) = (nI 10).toInt64 by decide, inN _ (by decide), Option.bind_some, if_neg na, if_neg (by decide)]
