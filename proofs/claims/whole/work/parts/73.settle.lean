/-! pins as masks -/
theorem cmask_mul (f : Nat → Bool) : ∀ n, n ≤ 20 → 2 ^ (20 - n) ∣ cmask f n ∧ ∀ i, (cmask f n).testBit i = (decide (i < 20) && (decide (19 - i < n) && f (19 - i)))
  | 0, _ => ⟨⟨0, by simp [cmask]⟩, fun i => by simp [cmask]⟩
  | n + 1, h => by
    obtain ⟨⟨M, a⟩, b⟩ := cmask_mul f n (by omega)
    have e : 2 ^ (20 - n) = 2 ^ (20 - (n + 1)) * 2 := by rw [← Nat.pow_succ]; congr 1; omega
    unfold cmask
    constructor
    · refine Nat.dvd_add ⟨2 * M, by rw [a, e, Nat.mul_assoc]⟩ ?_
      split
      · rw [show 19 - n = 20 - (n + 1) by omega]
        exact Nat.dvd_refl _
      · exact ⟨0, by simp⟩
    · intro i
      have lt : (if f n then 2 ^ (19 - n) else 0) < 2 ^ (20 - n) := by
        have := Nat.two_pow_pos (19 - n)
        rw [e, show 19 - n = 20 - (n + 1) by omega] at *
        split <;> omega
      have bi : (cmask f n + (if f n then 2 ^ (19 - n) else 0)).testBit i = ((cmask f n).testBit i || (if f n then 2 ^ (19 - n) else 0).testBit i) := by
        rw [a, Nat.two_pow_add_eq_or_of_lt lt, Nat.testBit_or]
      rw [bi, b]
      have tb : (if f n then 2 ^ (19 - n) else 0).testBit i = (f n && decide (19 - n = i)) := by
        by_cases q : f n = true
        · rw [if_pos q, Nat.testBit_two_pow]; simp [q]
        · rw [if_neg q]; simp [q]
      rw [tb]
      by_cases c : i < 20
      · by_cases d : 19 - i = n
        · have d2 : 19 - n = i := by omega
          simp [c, d, d2]
        · have d2 : ¬ 19 - n = i := by omega
          have d3 : (19 - i < n + 1) ↔ (19 - i < n) := by omega
          simp [d2, d3]
      · have d2 : ¬ 19 - n = i := by omega
        simp [c, d2]
theorem cmask_bit {f : Nat → Bool} {n i : Nat} (h : n ≤ 20) : (cmask f n).testBit i = (decide (i < 20) && (decide (19 - i < n) && f (19 - i))) := (cmask_mul f n h).2 i
theorem cmask_lt {f : Nat → Bool} {n : Nat} (h : n ≤ 20) : cmask f n < 2 ^ 20 := by
  refine Nat.lt_pow_two_of_testBit _ fun i hi => ?_
  rw [cmask_bit h]
  have : ¬ i < 20 := by omega
  simp [this]
theorem cmask_inj {f g : Nat → Bool} {n : Nat} (h : n ≤ 20) (e : nI (cmask f n) = nI (cmask g n)) : ∀ k, k < n → f k = g k := by
  intro k hk
  rw [nI_eq (Nat.lt_trans (cmask_lt h) (by decide)) (Nat.lt_trans (cmask_lt h) (by decide))] at e
  have := congrArg (fun x => x.testBit (19 - k)) e
  simp only [cmask_bit h] at this
  have h1 : 19 - k < 20 := by omega
  have h2 : 19 - (19 - k) = k := by omega
  simpa [h1, h2, hk] using this
theorem shl_bit {s : Sh} (w : WS s) {q i : Nat} (hi : i < 32) (hq : q < 2 ^ sN s) : bt (shl s q) i = (decide (i < 20) && (decide (19 - i < sN s) && cb s q (19 - i))) := by
  have n20 := w.n20
  unfold shl
  rw [bt_nI _ _ hi, Nat.testBit_mul_two_pow]
  by_cases c : i < 20
  · by_cases d : 19 - i < sN s
    · have : 20 - sN s ≤ i := by omega
      simp only [c, d, this, decide_true, Bool.true_and]
      unfold cb
      congr 1
      omega
    · have : ¬ 20 - sN s ≤ i := by omega
      simp [d, this]
  · have : q.testBit (i - (20 - sN s)) = false := Nat.testBit_lt_two_pow (Nat.lt_of_lt_of_le hq (Nat.pow_le_pow_right (by decide) (by omega)))
    simp [c, this]
theorem pin_and {s : Sh} (w : WS s) {q : Nat} (hq : q < 2 ^ sN s) : (shl s q &&& nI (cmask (fun k => sP s k != 0) (sN s))) = nI (cmask (fun k => sP s k == 1) (sN s)) ↔ isPin s q = true := by
  have n20 := w.n20
  unfold isPin
  rw [List.all_eq_true]
  simp only [List.mem_range]
  constructor
  · intro e k hk
    have e' := congrArg (fun x => bt x (19 - k)) e
    simp only [b_and] at e'
    rw [shl_bit w (by omega) hq, bt_nI _ _ (by omega), bt_nI _ _ (by omega), cmask_bit n20.2, cmask_bit n20.2] at e'
    have h1 : 19 - k < 20 := by omega
    have h2 : 19 - (19 - k) = k := by omega
    simp only [h1, h2, hk, decide_true, Bool.true_and] at e'
    have p2 := w.2.2.2.2.2.2.1 k hk
    rcases (by omega : sP s k = 0 ∨ sP s k = 1 ∨ sP s k = 2) with z | z | z <;> simp [z] at e' ⊢ <;> exact e'
  · intro e
    refine b_ext fun i hi => ?_
    rw [b_and, shl_bit w hi hq, bt_nI _ _ hi, bt_nI _ _ hi, cmask_bit n20.2, cmask_bit n20.2]
    by_cases c : i < 20
    · by_cases d : 19 - i < sN s
      · simp only [c, d, decide_true, Bool.true_and]
        have e' := e _ d
        have p2 := w.2.2.2.2.2.2.1 _ d
        rcases (by omega : sP s (19 - i) = 0 ∨ sP s (19 - i) = 1 ∨ sP s (19 - i) = 2) with z | z | z <;> simp [z] at e' ⊢ <;> exact e'
      · simp [d]
    · simp [c]
theorem ans0_lt {s : Sh} {q : Nat} (h : q ∈ ans0 s) : q < 2 ^ sN s := by
  unfold ans0 at h
  rw [List.mem_filter, List.mem_range] at h
  exact h.1
theorem ans_sub {s : Sh} {q : Nat} (h : q ∈ ans s) : q ∈ ans0 s := (List.mem_filter.mp h).1
theorem ans_lt {s : Sh} {q : Nat} (h : q ∈ ans s) : q < 2 ^ sN s := ans0_lt (ans_sub h)
theorem shl_lt {s : Sh} (w : WS s) {q : Nat} (h : q < 2 ^ sN s) : q * 2 ^ (20 - sN s) < 2 ^ 20 := by
  have n20 := w.n20
  have e : 2 ^ 20 = 2 ^ sN s * 2 ^ (20 - sN s) := by rw [← Nat.pow_add]; congr 1; omega
  rw [e]
  exact Nat.mul_lt_mul_of_pos_right h (Nat.two_pow_pos _)
theorem shl_inj {s : Sh} (w : WS s) {q q' : Nat} (h : q < 2 ^ sN s) (h' : q' < 2 ^ sN s) : shl s q = shl s q' ↔ q = q' := by
  have a := shl_lt w h
  have b := shl_lt w h'
  unfold shl
  rw [nI_eq (by omega) (by omega)]
  exact ⟨fun e => Nat.eq_of_mul_eq_mul_right (Nat.two_pow_pos _) e, fun e => by rw [e]⟩
theorem shl_mono {s : Sh} (w : WS s) {q q' : Nat} (h : q < q') (h' : q' < 2 ^ sN s) : shl s q < shl s q' := by
  have b := shl_lt w h'
  unfold shl
  exact nI_lt (Nat.mul_lt_mul_of_pos_right h (Nat.two_pow_pos _)) (by omega)
/-! narrowTo -/
def frN (a : Nat) (h h' : mH) : Prop := (∀ b k, b ≠ a + 2 → ¬ (b = a ∧ (k = 3 ∨ k = 5 ∨ k = 6)) → mgi h' b k = mgi h b k) ∧ ∀ b k, mgl h' b k = mgl h b k
theorem frN.trans {a : Nat} {h h1 h2 : mH} (x : frN a h h1) (y : frN a h1 h2) : frN a h h2 := ⟨fun c k u v => (y.1 c k u v).trans (x.1 c k u v), fun c k => (y.2 c k).trans (x.2 c k)⟩
def NL (h : mH) (a : Nat) (s : Sh) (L : List Nat) : Prop := mgi h a 3 = nI L.length ∧ (∀ k, k < L.length → mgi h (a + 2) k = shl s (L.getD k 0)) ∧ mgi h a 5 = andAll (L.map (shl s)) ∧ mgi h a 6 = orAll (L.map (shl s))
theorem andAll_app (l : List Int32) (x : Int32) : andAll (l ++ [x]) = andAll l &&& x := by
  unfold andAll
  rw [List.foldl_append]
  rfl
theorem NL.push {h : mH} {a : Nat} {s : Sh} {L : List Nat} {q : Nat} (m : NL h a s L) : NL (msi (msi (msi (msi h (a + 2) L.length (shl s q)) a 3 (nI (L.length + 1))) a 5 (mgi h a 5 &&& shl s q)) a 6 (mgi h a 6 ||| shl s q)) a s (L ++ [q]) := by
  obtain ⟨m1, m2, m3, m4⟩ := m
  refine ⟨by simp [mgi_msi], fun k hk => ?_, by simp [mgi_msi, m3, andAll_app], by simp [mgi_msi, m4, orAll_app]⟩
  rw [getD_appN hk, mgi_msi, if_neg (by omega), mgi_msi, if_neg (by omega), mgi_msi, if_neg (by omega), mgi_msi]
  by_cases e : k = L.length
  · simp [e]
  · simp only [e, and_false, if_false]
    exact m2 k (by simp at hk; omega)
theorem filt_take {l : List Nat} (p : Nat → Bool) {k : Nat} (hk : k < l.length) : (l.take (k + 1)).filter p = (l.take k).filter p ++ (if p (l.getD k 0) then [l.getD k 0] else []) := by
  rw [List.take_add_one, List.getElem?_eq_getElem hk, List.filter_append]
  congr 1
  have : l.getD k 0 = l[k] := by simp [List.getD, hk]
  rw [this]
  simp [List.filter_cons]
theorem nt_eq {N a b : Nat} {s : Sh} {h : mH} (hN : 400 < N) (hab : a = b + 3) (w : WS s) (cs : CS h b s) (u : UL h a ((ans0 s).map fun q => q * 2 ^ (20 - sN s))) : ∃ h', x_X1_narrowTo N a b h = some h' ∧ NL h' a s (ans s) ∧ frN a h h' := by
  have l310 := ans0_310 w
  unfold x_X1_narrowTo
  simp only [mlet_eq]
  generalize hh0 : msi (msi (msi h a 3 0) a 5 (-1)) a 6 0 = h0
  have f0 : frN a h h0 := by
    subst hh0
    exact ⟨fun c k h1 h2 => by rw [mgi_msi, if_neg (by omega), mgi_msi, if_neg (by omega), mgi_msi, if_neg (by omega)], fun _ _ => rfl⟩
  have n0 : NL h0 a s [] := by
    subst hh0
    exact ⟨by simp [mgi_msi, nI_0], fun k hk => by simp at hk, by simp [mgi_msi, andAll], by simp [mgi_msi, orAll]⟩
  refine lpI (fun f (x : mH) i => x_X1_narrowTo_17 N a b f i x) (fun k x => NL x a s (((ans0 s).take k).filter (isPin s)) ∧ frN a h x) (fun o => ∃ h', o = some h' ∧ NL h' a s (ans s) ∧ frN a h h') (ans0 s).length (fun f k x hk p => Or.inl ?_) (fun f x p => ?_) N 0 h0 (by omega) (by omega) ⟨by simpa using n0, f0⟩
  · obtain ⟨p1, p2⟩ := p
    have hq : (ans0 s).getD k 0 ∈ ans0 s := getD_mem hk
    have hlt := ans0_lt hq
    have e1 : mgi x a 1 = nI (ans0 s).length := by rw [p2.1 a 1 (by omega) (by omega), u.1, List.length_map]
    have e2 : mgi x (a + 1) k = shl s ((ans0 s).getD k 0) := by
      rw [p2.1 (a + 1) k (by omega) (by omega), u.2 k (by simpa using hk)]
      unfold shl
      congr 1
      simp [List.getD, hk]
    have e4 : mgi x b 4 = nI (cmask (fun k => sP s k != 0) (sN s)) := by rw [p2.1 b 4 (by omega) (by omega)]; exact cs.2.2.2.2.1
    have e5 : mgi x b 5 = nI (cmask (fun k => sP s k == 1) (sN s)) := by rw [p2.1 b 5 (by omega) (by omega)]; exact cs.2.2.2.2.2.1
    show ∃ a', x_X1_narrowTo_17 N a b (f + 1) (nI k) x = x_X1_narrowTo_17 N a b f (nI (k + 1)) a' ∧ _
    rw [x_X1_narrowTo_17_s, e1, if_neg (nI_ge hk (by omega)), mck_ok (vp_in_nI (by omega) (by decide)), nI_clamp (by omega), mlet_eq, e2, e4, e5]
    unfold x_X1_narrowTo_85
    rw [nI_1, filt_take _ hk]
    by_cases c : isPin s ((ans0 s).getD k 0) = true
    · rw [if_neg (fun z => z ((pin_and w hlt).mpr c)), if_pos c]
      have hl : (((ans0 s).take k).filter (isPin s)).length ≤ k := Nat.le_trans (List.length_filter_le _ _) (by simp; omega)
      rw [p1.1, mck_ok (vp_in_nI (by omega) (by decide)), nI_clamp (by omega)]
      simp only [mlet_eq]
      refine ⟨_, rfl, ?_, p2.trans ?_⟩
      · have := p1.push (q := (ans0 s).getD k 0)
        simp only [mgi_msi] at this ⊢
        simpa [mgi_msi, p1.1, nI_1] using this
      · exact ⟨fun c k h1 h2 => by rw [mgi_msi, if_neg (by omega), mgi_msi, if_neg (by omega), mgi_msi, if_neg (by omega), mgi_msi, if_neg (by omega)], fun _ _ => rfl⟩
    · rw [if_pos (fun z => c ((pin_and w hlt).mp z)), if_neg c, List.append_nil]
      exact ⟨x, rfl, p1, p2⟩
  · obtain ⟨p1, p2⟩ := p
    have e1 : mgi x a 1 = nI (ans0 s).length := by rw [p2.1 a 1 (by omega) (by omega), u.1, List.length_map]
    show ∃ h', x_X1_narrowTo_17 N a b (f + 1) (nI (ans0 s).length) x = some h' ∧ _
    rw [x_X1_narrowTo_17_s, e1, if_pos (nI_le (Nat.le_refl _) (by omega))]
    refine ⟨x, rfl, ?_, p2⟩
    rw [List.take_length] at p1
    exact p1
/-! listFor -/
theorem cmp_0 (x y : Int64) : lg_cmp x y = 0 ↔ x = y := by
  unfold lg_cmp
  by_cases c : x = y
  · subst c
    have : ¬ x > x := by
      intro q
      rw [gt_iff_lt, fa_lt64] at q
      omega
    simp [this]
  · simp only [c, if_false]
    split <;> simp
def eqS (s s0 : Sh) : Prop := sH s = sH s0 ∧ sW s = sW s0 ∧ sN s = sN s0 ∧ ans0 s = ans0 s0
theorem eqS_of {s s0 : Sh} (w : WS s) (w0 : WS s0) (e : totN s = totN s0) : eqS s s0 := by
  obtain ⟨a, b, c, d⟩ := totN_inj w w0 e
  have n : sN s = sN s0 := by unfold sN; rw [a, b]
  refine ⟨a, b, n, ?_⟩
  unfold ans0
  rw [n]
  refine List.filter_congr fun q hq => ?_
  have cbe : ∀ k, cb s q k = cb s0 q k := fun k => by unfold cb; rw [n]
  unfold isAns0
  simp only [cbe]
  rw [← a, ← b]
  congr 1
  · refine Bool.eq_iff_iff.mpr ?_
    rw [List.all_eq_true, List.all_eq_true]
    refine forall_congr' fun r => forall_congr' fun hr => ?_
    rw [c r (by simpa using hr)]
  · refine Bool.eq_iff_iff.mpr ?_
    rw [List.all_eq_true, List.all_eq_true]
    refine forall_congr' fun r => forall_congr' fun hr => ?_
    rw [d r (by simpa using hr)]
theorem eqP_of {s s0 : Sh} (w : WS s) (w0 : WS s0) (e : eqS s s0) (e1 : nI (cmask (fun k => sP s k != 0) (sN s)) = nI (cmask (fun k => sP s0 k != 0) (sN s0))) (e2 : nI (cmask (fun k => sP s k == 1) (sN s)) = nI (cmask (fun k => sP s0 k == 1) (sN s0))) : ans s = ans s0 := by
  obtain ⟨a, b, n, d⟩ := e
  rw [← n] at e1 e2
  have n20 := w.n20
  have f1 := cmask_inj n20.2 e1
  have f2 := cmask_inj n20.2 e2
  unfold ans
  rw [← d]
  refine List.filter_congr fun q hq => ?_
  unfold isPin
  rw [← n]
  refine Bool.eq_iff_iff.mpr ?_
  rw [List.all_eq_true, List.all_eq_true]
  refine forall_congr' fun k => forall_congr' fun hk => ?_
  have hk' : k < sN s := by simpa using hk
  have cbe : cb s q k = cb s0 q k := by unfold cb; rw [n]
  rw [cbe]
  have g1 := f1 k hk'
  have g2 := f2 k hk'
  have p := w.2.2.2.2.2.2.1 k hk'
  have p0 := w0.2.2.2.2.2.2.1 k (n ▸ hk')
  have : sP s k = sP s0 k := by
    rcases (by omega : sP s k = 0 ∨ sP s k = 1 ∨ sP s k = 2) with z | z | z <;> rcases (by omega : sP s0 k = 0 ∨ sP s0 k = 1 ∨ sP s0 k = 2) with z0 | z0 | z0 <;> simp [z, z0] at g1 g2 ⊢
  rw [this]
def frB (a : Nat) (h h' : mH) : Prop := (∀ b k, b ≠ a → b ≠ a + 1 → b ≠ a + 2 → mgi h' b k = mgi h b k) ∧ ∀ b k, b ≠ a → mgl h' b k = mgl h b k
theorem frB.refl {a : Nat} {h : mH} : frB a h h := ⟨fun _ _ _ _ _ => rfl, fun _ _ _ => rfl⟩
theorem lf73 {N a b : Nat} {s : Sh} {h : mH} (hN : 400 < N) (hab : a = b + 3) (w : WS s) (cs : CS h b s) (u : UL h a ((ans0 s).map fun q => q * 2 ^ (20 - sN s))) : ∃ h', x_X1_listFor_73 N a b (lN (totN s)) h = some h' ∧ AL h' a s ∧ frB a h h' ∧ mgi h' a 4 = mgi h a 4 + 1 := by
  obtain ⟨h1, e1, n1, f1⟩ := nt_eq hN hab w cs u
  unfold x_X1_listFor_73
  rw [e1]
  simp only [Option.bind_some, mlet_eq]
  refine ⟨_, rfl, ⟨?_, ?_, ?_, ?_, ?_, ?_, ?_, ?_, ?_⟩, ⟨?_, ?_⟩, ?_⟩
  · simp only [mgi_msi, mgi_msl]
    rw [if_neg (by omega), if_neg (by omega), if_neg (by omega), f1.1 a 1 (by omega) (by omega), u.1, List.length_map]
  · intro k hk
    simp only [mgi_msi, mgi_msl]
    rw [if_neg (by omega), if_neg (by omega), if_neg (by omega), f1.1 _ k (by omega) (by omega), u.2 k (by simpa using hk)]
    unfold shl
    congr 1
    simp [List.getD, hk]
  · simp only [mgi_msi, mgi_msl]
    rw [if_neg (by omega), if_neg (by omega), if_neg (by omega)]
    exact n1.1
  · intro k hk
    simp only [mgi_msi, mgi_msl]
    rw [if_neg (by omega), if_neg (by omega), if_neg (by omega)]
    exact n1.2.1 k hk
  · simp only [mgi_msi, mgi_msl]
    rw [if_neg (by omega), if_neg (by omega), if_neg (by omega)]
    exact n1.2.2.1
  · simp only [mgi_msi, mgi_msl]
    rw [if_neg (by omega), if_neg (by omega), if_neg (by omega)]
    exact n1.2.2.2
  · simp only [mgl_msi, mgl_msl]
    simp
  · simp only [mgi_msi, mgi_msl]
    rw [if_neg (by omega), if_neg (by omega), if_pos (by simp), f1.1 b 4 (by omega) (by omega)]
    exact cs.2.2.2.2.1
  · simp only [mgi_msi, mgi_msl]
    rw [if_neg (by omega), if_pos (by simp), if_neg (by omega), f1.1 b 5 (by omega) (by omega)]
    exact cs.2.2.2.2.2.1
  · intro c k c1 c2 c3
    simp only [mgi_msi, mgi_msl]
    rw [if_neg (by omega), if_neg (by omega), if_neg (by omega), f1.1 c k (by omega) (by omega)]
  · intro c k c1
    simp only [mgl_msi, mgl_msl]
    rw [if_neg (by omega), f1.2]
  · simp only [mgi_msi, mgi_msl]
    rw [if_pos (by simp), if_neg (by omega), if_neg (by omega), f1.1 a 4 (by omega) (by omega)]
theorem lf_full {N a b : Nat} {s : Sh} {h : mH} (hN : 400 < N) (hab : a = b + 3) (w : WS s) (cs : CS h b s) (hne : ¬ lN (totN s) = mgl h a 7) : ∃ h', x_X1_listFor_37 N a b (lN (totN s)) h = some h' ∧ AL h' a s ∧ frB a h h' ∧ mgi h' a 4 = mgi h a 4 + 1 := by
  unfold x_X1_listFor_37
  rw [if_neg (fun q => hne ((cmp_0 _ _).mp q))]
  simp only [mlet_eq]
  have cs1 : CS (msi h a 1 0) b s := cs.congr (fun k => by rw [mgi_msi, if_neg (by omega)]) (fun k => by rw [mgi_msi, if_neg (by omega)]) (fun k => by rw [mgi_msi, if_neg (by omega)])
  have k0 := cw_eq (b := 0) (by omega : 10 < N) cs1 w (by decide)
  have k1 := cw_eq (b := 1) (by omega : 10 < N) cs1 w (by decide)
  have k2 := cw_eq (b := 2) (by omega : 10 < N) cs1 w (by decide)
  rw [lk0_K5] at k0 k1 k2
  rw [show (1 : Int32) = nI (2 ^ 0) from rfl, k0, show (2 : Int32) = nI (2 ^ 1) from rfl, k1, show (4 : Int32) = nI (2 ^ 2) from rfl, k2]
  simp only [Option.bind_some]
  have u1 : UL (msi h a 1 0) a [] := ⟨by simp [mgi_msi, nI_0], fun k hk => by simp at hk⟩
  have h4 := w.2.1
  have hl := ans0_310 w
  obtain ⟨h2, e2, u2, f2⟩ := af_eq (by omega : 40 < N) hab w (sH s) 6 0 (lk0 s) [] (msi h a 1 0) (Nat.le_refl _) (by omega) (fun c _ => lk0_8 w c) cs1 u1 (by rw [Gc_ans w, List.length_map]; simpa using hl)
  rw [Nat.sub_self, nI_0] at e2
  rw [e2]
  simp only [Option.bind_some]
  rw [List.nil_append, Gc_ans w] at u2
  obtain ⟨h3, e3, a3, f3, d3⟩ := lf73 hN hab w (f2.cs hab cs1) u2
  refine ⟨h3, e3, a3, ⟨fun c k c1 c2 c3 => ?_, fun c k c1 => ?_⟩, ?_⟩
  · rw [f3.1 c k c1 c2 c3, f2.1 c k (by omega) (by omega), mgi_msi, if_neg (by omega)]
  · rw [f3.2 c k c1, f2.2]; rfl
  · rw [d3, f2.1 a 4 (by omega) (by omega), mgi_msi, if_neg (by omega)]
    rfl
theorem lf_eq {N a b : Nat} {s : Sh} {h : mH} (hN : 400 < N) (hab : a = b + 3) (w : WS s) (cs : CS h b s) (al : mgl h a 7 = -9 ∨ ∃ s0, WS s0 ∧ AL h a s0) : ∃ h', x_X1_listFor N a b h = some h' ∧ AL h' a s ∧ frB a h h' ∧ (mgi h' a 4 = mgi h a 4 + 1 ∨ (h' = h ∧ ∀ s0, WS s0 → AL h a s0 → eqS s s0 ∧ ans s = ans s0)) := by
  have t33 := totN_lt w
  unfold x_X1_listFor
  rw [tot_eq (by omega) cs w]
  simp only [Option.bind_some]
  by_cases c : lN (totN s) = mgl h a 7
  · rw [if_neg (fun q => q ((cmp_0 _ _).mpr c))]
    have hs : ∃ s0, WS s0 ∧ AL h a s0 := by
      rcases al with q | q
      · rw [q] at c
        have := congrArg Int64.toInt c
        rw [pk_lT (by omega)] at this
        exact absurd this (by rw [show (-9 : Int64).toInt = -9 by decide]; omega)
      · exact q
    obtain ⟨s0, w0, a0⟩ := hs
    have E : ∀ s0, WS s0 → AL h a s0 → eqS s s0 := by
      intro s0 w0 a0
      have t330 := totN_lt w0
      rw [a0.2.2.2.2.2.2.1, fb_lN_inj (by omega) (by omega)] at c
      exact eqS_of w w0 c
    have es := E s0 w0 a0
    have u0 : UL h a ((ans0 s).map fun q => q * 2 ^ (20 - sN s)) := by
      refine ⟨by rw [a0.1, List.length_map, es.2.2.2], fun k hk => ?_⟩
      rw [List.length_map, es.2.2.2] at hk
      rw [a0.2.1 k hk, es.2.2.2, es.2.2.1]
      unfold shl
      congr 1
      simp [List.getD, hk]
    have nar : ∃ h', x_X1_listFor_37 N a b (lN (totN s)) h = some h' ∧ AL h' a s ∧ frB a h h' ∧ mgi h' a 4 = mgi h a 4 + 1 := by
      unfold x_X1_listFor_37
      rw [if_pos ((cmp_0 _ _).mpr c)]
      exact lf73 hN hab w cs u0
    by_cases c4 : mgi h b 4 = mgi h a 8
    · rw [if_neg (fun q => q c4)]
      by_cases c5 : mgi h b 5 = mgi h a 9
      · rw [if_neg (fun q => q c5)]
        have P : ∀ s0, WS s0 → AL h a s0 → eqS s s0 ∧ ans s = ans s0 := by
          intro s0 w0 a0
          have es := E s0 w0 a0
          refine ⟨es, eqP_of w w0 es ?_ ?_⟩
          · rw [← cs.2.2.2.2.1, c4]; exact a0.2.2.2.2.2.2.2.1
          · rw [← cs.2.2.2.2.2.1, c5]; exact a0.2.2.2.2.2.2.2.2
        have ep := (P s0 w0 a0).2
        have sh : shl s = shl s0 := by funext q; unfold shl; rw [es.2.2.1]
        refine ⟨h, rfl, ⟨?_, ?_, ?_, ?_, ?_, ?_, ?_, ?_, ?_⟩, frB.refl, Or.inr ⟨rfl, P⟩⟩
        · rw [es.2.2.2]; exact a0.1
        · rw [es.2.2.2, sh]; exact a0.2.1
        · rw [ep]; exact a0.2.2.1
        · rw [ep, sh]; exact a0.2.2.2.1
        · rw [ep, sh]; exact a0.2.2.2.2.1
        · rw [ep, sh]; exact a0.2.2.2.2.2.1
        · exact c.symm
        · rw [← c4]; exact cs.2.2.2.2.1
        · rw [← c5]; exact cs.2.2.2.2.2.1
      · rw [if_pos c5]
        obtain ⟨h', q1, q2, q3, q4⟩ := nar
        exact ⟨h', q1, q2, q3, Or.inl q4⟩
    · rw [if_pos c4]
      obtain ⟨h', q1, q2, q3, q4⟩ := nar
      exact ⟨h', q1, q2, q3, Or.inl q4⟩
  · rw [if_pos (fun q => c ((cmp_0 _ _).mp q))]
    obtain ⟨h', q1, q2, q3, q4⟩ := lf_full hN hab w cs c
    exact ⟨h', q1, q2, q3, Or.inl q4⟩
