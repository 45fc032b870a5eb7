/-! the test of the model -/
def grS (T : Nat → Nat) (h st : Nat) : Nat := fb_sm (fun r => if st.testBit r then T r else 0) h
def grM (T : Nat → Nat) (h k : Nat) : Nat → Nat
  | 0 => 0
  | n + 1 => if bc n 20 = k ∧ grM T h k n < grS T h n then grS T h n else grM T h k n
theorem grS_le {s : Sh} (w : WS s) (st : Nat) : grS (tA s) (sH s) st ≤ 20 := by
  have h4 := w.2.1
  have : grS (tA s) (sH s) st ≤ sH s * 5 := fb_sm_bound (c := 5) fun r _ => by
    have := tA_le w r
    split <;> omega
  omega
theorem grM_le {s : Sh} (w : WS s) (k : Nat) : ∀ n, grM (tA s) (sH s) k n ≤ 20
  | 0 => by rw [grM]; omega
  | n + 1 => by
    have := grS_le w n
    have := grM_le w k n
    rw [grM]
    split <;> omega
theorem bc_le (q n : Nat) : bc q n ≤ n := fb_ct_le _ _
theorem greatest_eq {N p k : Nat} {s : Sh} {h : mH} (hN : 40 < N) (hk : k < 2 ^ 31) (w : WS s) (m : MS h p 0 s) : x_X9_greatest N p (nI k) h = some (nI (grM (tA s) (sH s) k (2 ^ sH s))) := by
  have h4 := w.2.1
  have e0 := m.1
  have p16 : 2 ^ sH s ≤ 16 := Nat.le_trans (Nat.pow_le_pow_right (n := 2) (by decide) h4) (by decide)
  unfold x_X9_greatest
  refine lpV (fun f (x : Int32) i => x_X9_greatest_4 N p (nI k) h f x i) (fun j => nI (grM (tA s) (sH s) k j)) (2 ^ sH s) _ (fun f j hj => ?_) (fun f => ?_) (by omega)
  · show x_X9_greatest_4 N p (nI k) h (f + 1) _ (nI j) = x_X9_greatest_4 N p (nI k) h f _ (nI (j + 1))
    rw [x_X9_greatest_4_s, e0, pw_eq _ (by omega), if_neg (nI_ge hj (by omega))]
    have K := lpV (fun g (x : Int32) i => x_X9_greatest_19 N (x_X9_greatest_4 N p (nI k) h f) p (nI k) (nI (grM (tA s) (sH s) k j)) (nI j) h g x i) (fun r => nI (fb_sm (fun r => if j.testBit r then tA s r else 0) r)) (sH s) (x_X9_greatest_4 N p (nI k) h f (nI (grM (tA s) (sH s) k (j + 1))) (nI (j + 1))) (fun g r hr => ?_) (fun g => ?_) (f := N) (by omega)
    · exact K
    · show x_X9_greatest_19 N (x_X9_greatest_4 N p (nI k) h f) p (nI k) (nI (grM (tA s) (sH s) k j)) (nI j) h (g + 1) _ (nI r) = x_X9_greatest_19 N (x_X9_greatest_4 N p (nI k) h f) p (nI k) (nI (grM (tA s) (sH s) k j)) (nI j) h g _ (nI (r + 1))
      have mt := m.2.2.1 r hr
      rw [Nat.zero_add] at mt
      rw [x_X9_greatest_19_s, e0, if_neg (nI_ge hr (by omega)), has_eq _ _ (by omega), Option.bind_some, fb_sm_succ]
      unfold x_X9_greatest_48
      by_cases c : j.testBit r = true
      · rw [if_pos c, if_pos c, if_neg (by decide), show (2 : Int32) = nI 2 from rfl, nI_add, mck_ok (vp_in_nI (by omega) (by decide)), nI_clamp (by omega), mt, mlet_eq, nI_add, nI_1, tA_eq hr]
      · rw [if_neg c, if_neg c, if_pos rfl, mlet_eq, show (0 : Int32) = nI 0 from rfl, nI_add, nI_1]
    · show x_X9_greatest_19 N (x_X9_greatest_4 N p (nI k) h f) p (nI k) (nI (grM (tA s) (sH s) k j)) (nI j) h (g + 1) _ (nI (sH s)) = _
      have g1 := grS_le w j
      have g2 := grM_le w k j
      have g3 := bc_le j 20
      rw [x_X9_greatest_19_s, e0, if_pos (nI_le (Nat.le_refl _) (by omega)), ones_eq (by omega), Option.bind_some, mlet_eq, nI_1]
      show x_X9_greatest_4 N p (nI k) h f (if ¬ nI (bc j 20) = nI k then nI (grM (tA s) (sH s) k j) else (if nI (grS (tA s) (sH s) j) ≤ nI (grM (tA s) (sH s) k j) then nI (grM (tA s) (sH s) k j) else nI (grS (tA s) (sH s) j))) (nI (j + 1)) = _
      congr 1
      rw [grM]
      by_cases c : bc j 20 = k
      · rw [if_neg (not_not_intro (by rw [c]))]
        by_cases d : grM (tA s) (sH s) k j < grS (tA s) (sH s) j
        · rw [if_neg (nI_ge d (by omega)), if_pos ⟨c, d⟩]
        · rw [if_pos (nI_le (by omega) (by omega)), if_neg (fun x => d x.2)]
      · rw [if_pos (fun x => c ((nI_eq (by omega) hk).mp x)), if_neg (fun x => c x.1)]
  · show x_X9_greatest_4 N p (nI k) h (f + 1) _ (nI (2 ^ sH s)) = _
    rw [x_X9_greatest_4_s, e0, pw_eq _ (by omega), if_pos (nI_le (Nat.le_refl _) (by omega))]
/-! the greatest of so many are the first ones in order -/
def allL : Nat → List (List Nat)
  | 0 => [[]]
  | n + 1 => (allL n).flatMap fun l => (List.range 6).map fun x => x :: l
theorem allL_mem : ∀ (n : Nat) (l : List Nat), l.length = n → (∀ x ∈ l, x ≤ 5) → l ∈ allL n
  | 0, l, h, _ => by
    rw [List.length_eq_zero_iff] at h
    subst h
    simp [allL]
  | n + 1, [], h, _ => by simp at h
  | n + 1, x :: l, h, hx => by
    rw [allL, List.mem_flatMap]
    refine ⟨l, allL_mem n l (by simpa using h) (fun y hy => hx y (List.mem_cons_of_mem _ hy)), ?_⟩
    rw [List.mem_map]
    exact ⟨x, by rw [List.mem_range]; have := hx x List.mem_cons_self; omega, rfl⟩
def chT (l : List Nat) : Bool := (List.range l.length).all fun k => fb_sm (fun i => l.getD (ord (fun j => l.getD j 0) l.length i) 0) (k + 1) == grM (fun j => l.getD j 0) l.length (k + 1) (2 ^ l.length)
theorem chT_1 : (allL 1).all chT = true := by decide +kernel
theorem chT_2 : (allL 2).all chT = true := by decide +kernel
theorem chT_3 : (allL 3).all chT = true := by decide +kernel
theorem chT_4 : (allL 4).all chT = true := by decide +kernel
theorem tL_mem {s : Sh} (w : WS s) : tL s ∈ allL (sH s) := by
  refine allL_mem _ _ (by simp [tL]) (fun x hx => ?_)
  unfold tL at hx
  rw [List.mem_map] at hx
  obtain ⟨r, hr, rfl⟩ := hx
  rw [List.mem_range] at hr
  have := w.2.2.2.2.1 r hr
  have := w.2.2.2.1
  omega
theorem top_gr {s : Sh} (w : WS s) {k : Nat} (hk : k < sH s) : topN s (k + 1) = grM (tA s) (sH s) (k + 1) (2 ^ sH s) := by
  have h1 := w.1
  have h4 := w.2.1
  have hm := tL_mem w
  have hc : chT (tL s) = true := by
    rcases (by omega : sH s = 1 ∨ sH s = 2 ∨ sH s = 3 ∨ sH s = 4) with e | e | e | e
    · rw [e] at hm; exact List.all_eq_true.mp chT_1 _ hm
    · rw [e] at hm; exact List.all_eq_true.mp chT_2 _ hm
    · rw [e] at hm; exact List.all_eq_true.mp chT_3 _ hm
    · rw [e] at hm; exact List.all_eq_true.mp chT_4 _ hm
  have ll : (tL s).length = sH s := by simp [tL]
  unfold chT at hc
  rw [ll, List.all_eq_true] at hc
  have := hc k (List.mem_range.mpr hk)
  rw [beq_iff_eq] at this
  exact this
theorem tested_eq {N p : Nat} {s : Sh} {h : mH} (hN : 40 < N) (w : WS s) (m : MS h p 0 s) : x_X9_tested N p h = some (tst s) := by
  have h4 := w.2.1
  have w5 := w.2.2.2.1
  have s0 := sumS_le w 0
  have s1 := sumS_le w 1
  have e0 := m.1
  have e1 := m.2.1
  rw [Nat.zero_add] at e1
  unfold x_X9_tested tst
  have t0 : x_X9_sum N p 2 (nI (sH s)) h = some (nI (sumS s 0)) := sum_eq (side := 0) (by omega) w m (by decide)
  have t1 : x_X9_sum N p 6 (nI (sW s)) h = some (nI (sumS s 1)) := sum_eq (side := 1) (by omega) w m (by decide)
  rw [e0, e1, t0, t1, Option.bind_some, Option.bind_some]
  by_cases e : sumS s 0 = sumS s 1
  · rw [if_pos (by rw [e]), if_pos e]
    refine lpI (fun f (_ : Unit) i => x_X9_tested_24 N p h f i) (fun k _ => 1 ≤ k ∧ ∀ j, j + 1 < k → tstP s j = false) (fun o => o = some (fsV (tstP s) (fun k => k + 1) (sH s))) (sH s + 1) (fun f k _ hk hx => ?_) (fun f _ hx => ?_) N 1 () (by omega) (by omega) ⟨Nat.le_refl _, fun j hj => by omega⟩
    · obtain ⟨k, rfl⟩ : ∃ j, k = j + 1 := ⟨k - 1, by omega⟩
      obtain ⟨-, x3⟩ := hx
      have tl := topN_le w (k + 1)
      have rl := roomN_le w (k + 1)
      have st : x_X9_tested_24 N p h (f + 1) (nI (k + 1)) = if nI (topN s (k + 1)) ≤ nI (roomN s (k + 1)) then x_X9_tested_24 N p h f (nI (k + 1 + 1)) else some (nI (k + 1)) := by
        rw [x_X9_tested_24_s, e0, if_neg (nI_nlt (by omega) (by omega))]
        have K := lpV (fun g (x : Int32) i => x_X9_tested_35 N (x_X9_tested_24 N p h f) p (nI (k + 1)) h g x i) (fun j => nI (fb_sm (fun c => if k + 1 ≤ sC s c then k + 1 else sC s c) j)) (sW s) (if nI (topN s (k + 1)) ≤ nI (roomN s (k + 1)) then x_X9_tested_24 N p h f (nI (k + 1 + 1)) else some (nI (k + 1))) (fun g j hj => ?_) (fun g => ?_) (f := N) (by omega)
        · exact K
        · show x_X9_tested_35 N (x_X9_tested_24 N p h f) p (nI (k + 1)) h (g + 1) _ (nI j) = x_X9_tested_35 N (x_X9_tested_24 N p h f) p (nI (k + 1)) h g _ (nI (j + 1))
          have mc := m.2.2.2.1 j hj
          rw [Nat.zero_add] at mc
          have cl := w.2.2.2.2.2.1 j hj
          rw [x_X9_tested_35_s, e1, if_neg (nI_ge hj (by omega)), show (6 : Int32) = nI 6 from rfl, nI_add, mck_ok (vp_in_nI (by omega) (by decide)), nI_clamp (by omega), mc, fb_sm_succ]
          unfold x_X9_tested_63
          by_cases c : k + 1 ≤ sC s j
          · rw [if_pos (nI_le c (by omega)), mlet_eq, nI_add, nI_1, if_pos c]
          · rw [if_neg (nI_ge (by omega) (by omega)), mck_ok (vp_in_nI (by omega) (by decide)), mlet_eq, nI_add, nI_1, if_neg c]
        · show x_X9_tested_35 N (x_X9_tested_24 N p h f) p (nI (k + 1)) h (g + 1) _ (nI (sW s)) = _
          rw [x_X9_tested_35_s, e1, if_pos (nI_le (Nat.le_refl _) (by omega)), greatest_eq hN (by omega) w m, Option.bind_some, ← top_gr w (by omega), nI_1]
          rfl
      show (∃ a' : Unit, x_X9_tested_24 N p h (f + 1) (nI (k + 1)) = x_X9_tested_24 N p h f (nI (k + 1 + 1)) ∧ _) ∨ x_X9_tested_24 N p h (f + 1) (nI (k + 1)) = _
      rw [st]
      by_cases c : roomN s (k + 1) < topN s (k + 1)
      · refine Or.inr ?_
        rw [if_neg (nI_ge c (by omega))]
        rw [← fsV_eq (r := nI (k + 1)) (Or.inr ⟨k, by omega, by unfold tstP; simp [c], rfl, fun i hi => x3 i (by omega)⟩)]
      · refine Or.inl ⟨(), by rw [if_pos (nI_le (by omega) (by omega))], by omega, fun j hj => ?_⟩
        by_cases d : j = k
        · subst d; unfold tstP; simp [c]
        · exact x3 j (by omega)
    · show x_X9_tested_24 N p h (f + 1) (nI (sH s + 1)) = _
      rw [x_X9_tested_24_s, e0, if_pos (nI_lt (by omega) (by omega))]
      rw [← fsV_eq (r := -9) (Or.inl ⟨rfl, fun j hj => hx.2 j (by omega)⟩)]
  · rw [if_neg (fun q => e ((nI_eq (by omega) (by omega)).mp q)), if_neg e]
theorem S_test {N t : Nat} {h : mH} {z : St} (hN : 1000 < N) (hw : WF z) (hc : IC t h z) (hm : IM h z) : GW t (xcW (x_X8_test N h) (fun h1 => x_X9_test N h1)) := by
  have w := hw.2.1.1
  refine ok_W (r := tst z.2.1) (z' := z) hm hw ?_ (fun h1 hm1 => ⟨_, ?_, hm1.thr 0, frM_i (by decide)⟩)
  · obtain ⟨h', e1, e2⟩ := failsAt_eq (N := N) (by omega) w (by decide) hc.2.1
    refine ⟨h', ?_, IC.next (hc.scr' (fun b k hb => e2.1 b k (by unfold icb at hb; omega)) e2.2), fun b hb => ⟨fun k => e2.1 b k (by omega), fun k => e2.2 b k⟩⟩
    unfold x_X8_test
    rw [e1]
    rfl
  · unfold x_X9_test
    rw [mlet_eq, tested_eq (by omega) w (hm1.thr 0).2.1]
    rfl
