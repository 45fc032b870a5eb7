/-! share -/
def shT (s : Sh) (i t : Nat) : Nat := if t.testBit i then 0 else fac (bc t 20) * fac (pinN s - 1 - bc t 20) * (lft s t - lft s (t ||| 2 ^ i))
theorem fac_pr : ∀ a, a < 6 → ∀ b, b < 6 → a + b < 6 → fac a * fac b ≤ 120 := by decide +kernel
theorem fac_p : ∀ a, a < 7 → fac a ≤ 720 ∧ 0 < fac a := by decide +kernel
theorem bc_own {s : Sh} {i t : Nat} (h6 : pinN s ≤ 6) (ht : t < 2 ^ pinN s) (hi : i < pinN s) (hb : t.testBit i = false) : bc t 20 + 1 ≤ pinN s := by
  have e1 : bc t 20 = bc t (pinN s) := bc_small ht (by omega)
  have le := bc_le t (pinN s)
  have ne : ¬ bc t (pinN s) = pinN s := fun q => by
    have := (fb_ct_all (p := fun j => t.testBit j)).mp q i hi
    rw [hb] at this; cases this
  omega
theorem shT_le {s : Sh} (w : WS s) {i t : Nat} (ht : t < 2 ^ pinN s) (hi : i < pinN s) : shT s i t ≤ 37200 := by
  have n6 : pinN s ≤ 6 := w.2.2.2.2.2.2.2
  unfold shT
  by_cases c : t.testBit i = true
  · rw [if_pos c]; omega
  · rw [if_neg c]
    have bo := bc_own n6 ht hi (by simpa using c)
    have f := fac_pr (bc t 20) (by omega) (pinN s - 1 - bc t 20) (by omega) (by omega)
    have l := lft_le w t
    exact Nat.le_trans (Nat.mul_le_mul f (show lft s t - lft s (t ||| 2 ^ i) ≤ 310 by omega)) (by decide)
theorem or_pin {P t i : Nat} (ht : t < 2 ^ P) (hi : i < P) : t ||| 2 ^ i < 2 ^ P := Nat.or_lt_two_pow ht (Nat.pow_lt_pow_right (by decide) hi)
theorem own_mask {s : Sh} {cell : Nat} (hc : cell ∈ pLs s) : stN (fun i => decide ((pLs s).getD i 0 = cell)) (pinN s) = 2 ^ (pLs s).idxOf cell := by
  have hi := List.idxOf_lt_length_of_mem hc
  rw [pLs_len] at hi
  refine Nat.eq_of_testBit_eq fun i => ?_
  rw [stN_bit, Nat.testBit_two_pow]
  by_cases c : i < pinN s
  · rw [decide_eq_true c, Bool.true_and]
    congr 1
    apply propext
    constructor
    · intro e
      rw [← e, idx_getD (pLs_sorted s) (by rw [pLs_len]; exact c)]
    · intro e
      rw [← e]; exact getD_idx hc
  · have : ¬ (pLs s).idxOf cell = i := by omega
    simp [c, this]
theorem fewer_eq {N cell : Nat} {s : Sh} {h : mH} (hN : 1000 < N) (w : WS s) (pl : PL h (pLs s)) (lf : LF h s) (hc : cell ∈ pLs s) : x_X5_fewerInAllOrders N (nI cell) h = some (nI (fb_sm (shT s ((pLs s).idxOf cell)) (2 ^ pinN s))) := by
  have n6 : pinN s ≤ 6 := w.2.2.2.2.2.2.2
  have q64 := p64 n6
  have n20 := w.n20
  have cl := (pLs_mem.mp hc).1
  have hi := List.idxOf_lt_length_of_mem hc
  rw [pLs_len] at hi
  have step : x_X5_fewerInAllOrders_43 N (nI (2 ^ (pLs s).idxOf cell)) h N 0 0 = some (nI (fb_sm (shT s ((pLs s).idxOf cell)) (2 ^ pinN s))) := by
    refine lpV (fun f (v : Int32) i => x_X5_fewerInAllOrders_43 N (nI (2 ^ (pLs s).idxOf cell)) h f v i) (fun t => nI (fb_sm (shT s ((pLs s).idxOf cell)) t)) (2 ^ pinN s) _ (fun f t ht => ?_) (fun f => ?_) (by omega)
    · show x_X5_fewerInAllOrders_43 N (nI (2 ^ (pLs s).idxOf cell)) h (f + 1) _ (nI t) = x_X5_fewerInAllOrders_43 N (nI (2 ^ (pLs s).idxOf cell)) h f _ (nI (t + 1))
      have t64 : t < 2 ^ 6 := by have : (2 : Nat) ^ 6 = 64 := rfl; omega
      have ol := or_pin ht hi
      rw [x_X5_fewerInAllOrders_43_s, pl.1, pLs_len, pw6 _ (by omega), if_neg (nI_ge ht (by omega)), fb_sm_succ]
      unfold x_X5_fewerInAllOrders_113
      unfold shT
      by_cases c : t.testBit ((pLs s).idxOf cell) = true
      · rw [if_pos (fun q => by rw [fa_bit (by omega), c] at q; cases q), nI_1, if_pos c]
        rfl
      · have c' : t.testBit ((pLs s).idxOf cell) = false := by simpa using c
        have bo := bc_own n6 ht hi c'
        rw [if_neg (not_not_intro ((fa_bit (by omega)).mpr c')), bcnt (n := 6) t64 (by decide), Option.bind_some, (bc_pin n6 ht).2, orders_eq (by omega) (by omega), Option.bind_some, sub1 (by omega), orders_eq (by omega) (by omega), Option.bind_some, mlet_eq, mck_ok (vp_in_nI (by omega) (by decide)), fa_or, mck_ok (vp_in_nI (by omega) (by decide)), nI_clamp (by omega), nI_clamp (by omega), lf t ht, lf _ ol, pk_sub (lft_anti s t _), mlet_eq, pk_mul, pk_mul, nI_add, nI_1, if_neg c]
    · show x_X5_fewerInAllOrders_43 N (nI (2 ^ (pLs s).idxOf cell)) h (f + 1) _ (nI (2 ^ pinN s)) = _
      rw [x_X5_fewerInAllOrders_43_s, pl.1, pLs_len, pw6 _ (by omega), if_pos (nI_le (Nat.le_refl _) (by omega))]
  unfold x_X5_fewerInAllOrders
  refine lpV (fun f (v : Int32) i => x_X5_fewerInAllOrders_4 N (nI cell) h f v i) (fun j => nI (stN (fun i => decide ((pLs s).getD i 0 = cell)) j)) (pinN s) _ (fun f j hj => ?_) (fun f => ?_) (by omega)
  · show x_X5_fewerInAllOrders_4 N (nI cell) h (f + 1) _ (nI j) = x_X5_fewerInAllOrders_4 N (nI cell) h f _ (nI (j + 1))
    obtain ⟨k1, -⟩ := pLs_at hj
    rw [x_X5_fewerInAllOrders_4_s, pl.1, pLs_len, if_neg (nI_ge hj (by omega)), mck_ok (vp_in_nI (by omega) (by decide)), nI_clamp (by omega), pl.2 j (by rw [pLs_len]; exact hj), mlet_eq, nI_1, ← stN_or]
    congr 2
    by_cases c : (pLs s).getD j 0 = cell
    · rw [if_neg (not_not_intro (by rw [c])), pw6 j (by omega), if_pos (by rw [decide_eq_true_eq]; exact c)]
    · rw [if_pos (fun q => c ((nI_eq (by omega) (by omega)).mp q)), if_neg (by rw [decide_eq_true_eq]; exact c)]
      rfl
  · show x_X5_fewerInAllOrders_4 N (nI cell) h (f + 1) _ (nI (pinN s)) = _
    rw [x_X5_fewerInAllOrders_4_s, pl.1, pLs_len, if_pos (nI_le (Nat.le_refl _) (by omega)), own_mask hc]
    exact step
theorem mshare_eq {N cell : Nat} {s : Sh} {h : mH} {u : Int32} (hN : 1000 < N) (w : WS s) (ml : ML h (pLs s)) (wt : WT h s) (hc : cell ∈ pLs s) : x_X9_share_41 N (nI cell) u (nI (pinN s)) N 0 0 h = some (frac (fb_sm (shT s ((pLs s).idxOf cell)) (2 ^ pinN s)) (fac (pinN s)) u, h) := by
  have n6 : pinN s ≤ 6 := w.2.2.2.2.2.2.2
  have q64 := p64 n6
  have n20 := w.n20
  have cl := (pLs_mem.mp hc).1
  have hi := List.idxOf_lt_length_of_mem hc
  rw [pLs_len] at hi
  obtain ⟨f1, f2⟩ := fac_p (pinN s) (by omega)
  have sb : fb_sm (shT s ((pLs s).idxOf cell)) (2 ^ pinN s) ≤ 2 ^ pinN s * 37200 := fb_sm_bound fun t ht => shT_le w ht hi
  have step : x_X9_share_79 N u (nI (pinN s)) (nI ((pLs s).idxOf cell)) N 0 0 h = some (frac (fb_sm (shT s ((pLs s).idxOf cell)) (2 ^ pinN s)) (fac (pinN s)) u, h) := by
    refine lpV (fun f (v : Int32) i => x_X9_share_79 N u (nI (pinN s)) (nI ((pLs s).idxOf cell)) f v i h) (fun t => nI (fb_sm (shT s ((pLs s).idxOf cell)) t)) (2 ^ pinN s) _ (fun f t ht => ?_) (fun f => ?_) (by omega)
    · show x_X9_share_79 N u (nI (pinN s)) (nI ((pLs s).idxOf cell)) (f + 1) _ (nI t) h = x_X9_share_79 N u (nI (pinN s)) (nI ((pLs s).idxOf cell)) f _ (nI (t + 1)) h
      have ol := or_pin ht hi
      rw [x_X9_share_79_s, pw6 _ (by omega), if_neg (nI_ge ht (by omega)), ones_eq (by omega), Option.bind_some, has_eq _ _ (by omega), Option.bind_some, fb_sm_succ]
      unfold x_X9_share_146
      unfold shT
      by_cases c : t.testBit ((pLs s).idxOf cell) = true
      · rw [if_pos c, if_neg (by decide), mlet_eq, nI_1, if_pos c]
        show x_X9_share_79 N u (nI (pinN s)) (nI ((pLs s).idxOf cell)) f (nI _ + nI 0) _ h = _
        rw [nI_add]
      · have c' : t.testBit ((pLs s).idxOf cell) = false := by simpa using c
        have bo := bc_own n6 ht hi c'
        rw [if_neg c, if_pos rfl, factorial_eq (by omega) (by omega), Option.bind_some, sub1 (by omega), factorial_eq (by omega) (by omega), Option.bind_some, mck_ok (vp_in_nI (by omega) (by decide)), pw6 _ (by omega), fa_or, mck_ok (vp_in_nI (by omega) (by decide)), nI_clamp (by omega), nI_clamp (by omega), wt t ht, wt _ ol, pk_sub (lft_anti s t _), mlet_eq, pk_mul, pk_mul, nI_add, nI_1, if_neg c]
    · show x_X9_share_79 N u (nI (pinN s)) (nI ((pLs s).idxOf cell)) (f + 1) _ (nI (2 ^ pinN s)) h = _
      rw [x_X9_share_79_s, pw6 _ (by omega), if_pos (nI_le (Nat.le_refl _) (by omega)), factorial_eq (by omega) (by omega), Option.bind_some, fraction_eq (by omega) (by omega) f2 (by omega)]
      rfl
  have K := lpV (fun f (v : Int32) i => x_X9_share_41 N (nI cell) u (nI (pinN s)) f v i h) (fun j => nI (if (pLs s).idxOf cell < j then (pLs s).idxOf cell else 0)) (pinN s) (some (frac (fb_sm (shT s ((pLs s).idxOf cell)) (2 ^ pinN s)) (fac (pinN s)) u, h)) (fun f j hj => ?_) (fun f => ?_) (f := N) (by omega)
  · exact K
  · show x_X9_share_41 N (nI cell) u (nI (pinN s)) (f + 1) _ (nI j) h = x_X9_share_41 N (nI cell) u (nI (pinN s)) f _ (nI (j + 1)) h
    obtain ⟨k1, -⟩ := pLs_at hj
    rw [x_X9_share_41_s, if_neg (nI_ge hj (by omega)), mck_ok (vp_in_nI (by omega) (by decide)), nI_clamp (by omega), ml j (by rw [pLs_len]; exact hj), mlet_eq, nI_1]
    congr 1
    by_cases c : (pLs s).getD j 0 = cell
    · have ij : (pLs s).idxOf cell = j := by rw [← c, idx_getD (pLs_sorted s) (by rw [pLs_len]; exact hj)]
      rw [if_neg (not_not_intro (by rw [c])), if_pos (by omega), ij]
    · have ij : ¬ (pLs s).idxOf cell = j := fun e => c (by rw [← e]; exact getD_idx hc)
      rw [if_pos (fun q => c ((nI_eq (by omega) (by omega)).mp q))]
      by_cases d : (pLs s).idxOf cell < j
      · rw [if_pos d, if_pos (by omega)]
      · rw [if_neg d, if_neg (by omega)]
  · show x_X9_share_41 N (nI cell) u (nI (pinN s)) (f + 1) _ (nI (pinN s)) h = _
    rw [x_X9_share_41_s, if_pos (nI_le (Nat.le_refl _) (by omega)), if_pos hi]
    exact step
theorem S_share {N t : Nat} {h : mH} {z : St} (hN : 1000 < N) (hw : WF z) (hc : IC t h z) (hm : IM h z) (a u : Int32) : GW t (xcW (x_X8_share N a u h) (fun h1 => x_X9_share N a u h1)) := by
  have w := hw.2.1.1
  have cs := hc.2.1
  have n20 := w.n20
  have n6 : pinN z.2.1 ≤ 6 := w.2.2.2.2.2.2.2
  have q64 := p64 n6
  obtain ⟨f1, f2⟩ := fac_p (pinN z.2.1) (by omega)
  have F0 : ∀ h1, frM h1 (msi h1 82 0 0) := fun h1 => frM_i (by decide)
  rcases in_cases a (n := sN z.2.1) (by omega) with ⟨k, hk, rfl⟩ | ⟨-, ca⟩
  · have hcell : ∃ j, j < sN z.2.1 ∧ nI k = nI j := ⟨k, hk, rfl⟩
    have pk := w.2.2.2.2.2.2.1 k hk
    by_cases c : sP z.2.1 k = 0
    · refine ok_W (r := -3) (z' := z) hm hw ⟨h, ?_, hc.next, frC.rfl⟩ (fun h1 hm1 => ⟨_, ?_, hm1.thr 0, F0 h1⟩)
      · unfold x_X8_share
        rw [hasCell_eq w cs, Option.bind_some, if_pos hcell, if_pos (by decide), pinOf_eq w cs hk, Option.bind_some, c, if_neg (by decide)]
      · have ms := (hm1.thr 0).2.1
        unfold x_X9_share
        simp only [mlet_eq]
        rw [noCell_eq ms w, Option.bind_some, if_pos hcell, if_pos rfl, show (11 : Int32) + nI k = nI (11 + k) from nI_add 11 k, mck_ok (vp_in_nI (by omega) (by decide)), nI_clamp (by omega), mpin_at w ms hk, c, if_neg (by decide)]
    · have hmem : k ∈ pLs z.2.1 := pLs_mem.mpr ⟨hk, c⟩
      have hi := List.idxOf_lt_length_of_mem hmem
      rw [pLs_len] at hi
      have sb : fb_sm (shT z.2.1 ((pLs z.2.1).idxOf k)) (2 ^ pinN z.2.1) ≤ 2 ^ pinN z.2.1 * 37200 := fb_sm_bound fun t ht => shT_le w ht hi
      refine ok_W (r := frac (fb_sm (shT z.2.1 ((pLs z.2.1).idxOf k)) (2 ^ pinN z.2.1)) (fac (pinN z.2.1)) u) (z' := z) hm hw ?_ (fun h1 hm1 => ?_)
      · obtain ⟨h2, e1, e2, e3, e4⟩ := cweigh hN w cs hc.2.2.1
        refine ⟨h2, ?_, IC.next (hc.scr' (fun b k hb => e4.1 b k (by unfold icb at hb; omega)) e4.2), fun b hb => ⟨fun k => e4.1 b k (by omega), fun k => e4.2 b k⟩⟩
        unfold x_X8_share
        rw [hasCell_eq w cs, Option.bind_some, if_pos hcell, if_pos (by decide), pinOf_eq w cs hk, Option.bind_some, if_pos (nI_ne0 (by omega) (by omega)), e1, Option.bind_some, fewer_eq hN w e2 e3 hmem, Option.bind_some, e2.1, pLs_len, orders_eq (by omega) (by omega), Option.bind_some, least_eq (by omega) (by omega) f2 (by omega)]
        rfl
      · have i1 := hm1.thr 0
        have ms := i1.2.1
        obtain ⟨h2, e1, e2, e3, e4⟩ := mweigh hN w ms
        refine ⟨h2, ?_, i1.scr (fun b hb k => e4.1 b k (by omega) (by omega) (by omega) (by omega) (by omega) (by omega)) (fun k hk => e4.1 82 k (by omega) (by omega) (by omega) (by omega) (by omega) (by omega)) (fun k => e4.2 82 k), (F0 h1).trans (fun b hb => ⟨fun k => e4.1 b k (by omega) (by omega) (by omega) (by omega) (by omega) (by omega), fun k => e4.2 b k⟩)⟩
        unfold x_X9_share
        simp only [mlet_eq]
        rw [noCell_eq ms w, Option.bind_some, if_pos hcell, if_pos rfl, show (11 : Int32) + nI k = nI (11 + k) from nI_add 11 k, mck_ok (vp_in_nI (by omega) (by decide)), nI_clamp (by omega), mpin_at w ms hk, if_pos (nI_ne0 (by omega) (by omega)), e1, Option.bind_some]
        exact mshare_eq hN w e2 e3 hmem
  · refine ok_W (r := -1) (z' := z) hm hw ⟨h, ?_, hc.next, frC.rfl⟩ (fun h1 hm1 => ⟨_, ?_, hm1.thr 0, F0 h1⟩)
    · unfold x_X8_share
      rw [hasCell_eq w cs, Option.bind_some, if_neg ca, if_neg (by decide)]
    · unfold x_X9_share
      simp only [mlet_eq]
      rw [noCell_eq (hm1.thr 0).2.1 w, Option.bind_some, if_neg ca, if_neg (by decide)]
