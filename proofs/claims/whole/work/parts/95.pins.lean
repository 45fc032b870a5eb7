/-! shares, chances: sets of pins -/
def pLs (s : Sh) : List Nat := (List.range (sN s)).filter (fun k => sP s k != 0)
theorem filt_len (p : Nat → Bool) : ∀ n, ((List.range n).filter p).length = fb_ct p n
  | 0 => rfl
  | n + 1 => by
    rw [filt_succ, List.length_append, filt_len p n, fb_ct_succ]
    congr 1
    by_cases c : p n = true
    · rw [if_pos c, if_pos c]; rfl
    · rw [if_neg c, if_neg c]; rfl
theorem pLs_len (s : Sh) : (pLs s).length = pinN s := filt_len _ _
theorem filt_prefix (p : Nat → Bool) {a b : Nat} (h : a ≤ b) : ∃ l, (List.range b).filter p = (List.range a).filter p ++ l := by
  obtain ⟨d, rfl⟩ : ∃ d, b = a + d := ⟨b - a, by omega⟩
  induction d with
  | zero => exact ⟨[], by rw [Nat.add_zero, List.append_nil]⟩
  | succ d ih =>
    obtain ⟨l, e⟩ := ih (by omega)
    exact ⟨l ++ (if p (a + d) then [a + d] else []), by rw [← Nat.add_assoc, filt_succ, e, List.append_assoc]⟩
theorem pLs_mem {s : Sh} {k : Nat} : k ∈ pLs s ↔ k < sN s ∧ sP s k ≠ 0 := by
  unfold pLs
  rw [List.mem_filter, List.mem_range, bne_iff_ne]
theorem pLs_sorted (s : Sh) : (pLs s).Pairwise (· < ·) := List.Pairwise.filter _ List.pairwise_lt_range
theorem pLs_at {s : Sh} {i : Nat} (h : i < pinN s) : (pLs s).getD i 0 < sN s ∧ sP s ((pLs s).getD i 0) ≠ 0 := pLs_mem.mp (getD_mem (by rw [pLs_len]; exact h))
/-- which pins an answer breaks, a bit each -/
def brk (s : Sh) (x k : Nat) : Bool := cb s x k ^^ (sP s k == 1)
def brN (s : Sh) (x : Nat) : Nat := stN (fun i => brk s x ((pLs s).getD i 0)) (pinN s)
theorem brN_lt (s : Sh) (x : Nat) : brN s x < 2 ^ pinN s := stN_lt _ _
def lft (s : Sh) (t : Nat) : Nat := fb_ct (fun j => decide (t &&& brN s ((ans0 s).getD j 0) = 0)) (ans0 s).length
theorem lft_le {s : Sh} (w : WS s) (t : Nat) : lft s t ≤ 310 := Nat.le_trans (fb_ct_le _ _) (ans0_310 w)
theorem and0_or {t o b : Nat} (h : (t ||| o) &&& b = 0) : t &&& b = 0 := by
  refine Nat.eq_of_testBit_eq fun i => ?_
  have := congrArg (fun z => z.testBit i) h
  simp only [Nat.testBit_and, Nat.testBit_or, Nat.zero_testBit] at this
  rw [Nat.testBit_and, Nat.zero_testBit]
  revert this
  cases t.testBit i <;> cases o.testBit i <;> cases b.testBit i <;> simp
theorem lft_anti (s : Sh) (t o : Nat) : lft s (t ||| o) ≤ lft s t := fb_ct_sub fun j _ h => by
  rw [decide_eq_true_eq] at h ⊢
  exact and0_or h
theorem sm_delta {v M g : Nat} (h : v < M) : fb_sm (fun b => if b = v then g else 0) M = g := by
  have e := fb_sm_upd (fun _ => 0) g (i := v) h
  have z : fb_sm (fun _ => 0) M = 0 := by rw [fb_sm_const]; omega
  rw [z] at e
  simpa using e
theorem sm_count (c : Nat → Bool) (f : Nat → Nat) (M : Nat) : ∀ n, (∀ j, j < n → f j < M) → fb_sm (fun b => if c b then fb_ct (fun j => decide (f j = b)) n else 0) M = fb_ct (fun j => c (f j)) n
  | 0, _ => by
    rw [fb_sm_cong (g := fun _ => 0) (fun b _ => by show (if c b then 0 else 0) = 0; split <;> rfl), fb_sm_const, Nat.mul_zero]
    rfl
  | n + 1, h => by
    have ih := sm_count c f M n (fun j hj => h j (by omega))
    rw [fb_ct_succ, ← ih, ← sm_delta (v := f n) (M := M) (g := if c (f n) then 1 else 0) (h n (by omega)), ← fb_sm_add]
    refine fb_sm_cong fun b _ => ?_
    by_cases d : b = f n
    · rw [if_pos d, fb_ct_succ, d]
      by_cases e : c (f n) = true
      · rw [if_pos e, if_pos e, if_pos e]; simp
      · rw [if_neg e, if_neg e, if_neg e]
    · rw [if_neg d, fb_ct_succ]
      have : decide (f n = b) = false := by simp [Ne.symm d]
      rw [this]
      by_cases e : c b = true
      · rw [if_pos e, if_pos e]; rfl
      · rw [if_neg e, if_neg e]
def frPs (h h' : mH) : Prop := (∀ b k, ¬ (70 ≤ b ∧ b ≤ 73) → mgi h' b k = mgi h b k) ∧ ∀ b k, mgl h' b k = mgl h b k
theorem frPs.refl {h : mH} : frPs h h := ⟨fun _ _ _ => rfl, fun _ _ => rfl⟩
theorem frPs.trans {h h1 h2 : mH} (a : frPs h h1) (b : frPs h1 h2) : frPs h h2 := ⟨fun c k x => (b.1 c k x).trans (a.1 c k x), fun c k => (b.2 c k).trans (a.2 c k)⟩
theorem frPs_i {h : mH} {a k : Nat} {v : Int32} (ha : 70 ≤ a ∧ a ≤ 73) : frPs h (msi h a k v) := ⟨fun b j hb => by rw [mgi_msi, if_neg (by omega)], fun _ _ => rfl⟩
theorem frPs.cs {h h' : mH} {s : Sh} (f : frPs h h') (m : CS h 2 s) : CS h' 2 s := m.congr (fun k => f.1 _ k (by omega)) (fun k => f.1 _ k (by omega)) (fun k => f.1 _ k (by omega))
theorem frPs.al {h h' : mH} {s : Sh} (f : frPs h h') (m : AL h 5 s) : AL h' 5 s := m.congr (fun k => f.1 _ k (by omega)) (fun k => f.1 _ k (by omega)) (fun k => f.1 _ k (by omega)) (fun k => f.2 _ k)
/-- the class's list of pins -/
def PL (h : mH) (A : List Nat) : Prop := mgi h 70 3 = nI A.length ∧ ∀ j, j < A.length → mgi h 71 j = nI (A.getD j 0)
theorem PL.congr {h h' : mH} {A : List Nat} (e0 : mgi h' 70 3 = mgi h 70 3) (e1 : ∀ k, mgi h' 71 k = mgi h 71 k) (m : PL h A) : PL h' A := ⟨by rw [e0]; exact m.1, fun j hj => by rw [e1]; exact m.2 j hj⟩
theorem clistPins {N : Nat} {s : Sh} {h : mH} (hN : 40 < N) (w : WS s) (cs : CS h 2 s) : ∃ h', x_X5_listPins N 2 h = some h' ∧ PL h' (pLs s) ∧ frPs h h' := by
  have n20 := w.n20
  have n6 : pinN s ≤ 6 := w.2.2.2.2.2.2.2
  unfold x_X5_listPins
  rw [mlet_eq]
  refine lpI (fun f (x : mH) i => x_X5_listPins_7 N 2 f i x) (fun k x => PL x ((List.range k).filter (fun k => sP s k != 0)) ∧ frPs h x) (fun o => ∃ h', o = some h' ∧ PL h' (pLs s) ∧ frPs h h') (sN s) (fun f k x hk hx => ?_) (fun f x hx => ?_) N 0 (msi h 70 3 0) (by omega) (by omega) ⟨⟨by rw [mgi_same]; rfl, fun j hj => by simp at hj⟩, frPs_i (by omega)⟩
  · obtain ⟨⟨x1, x2⟩, fr⟩ := hx
    have csx := fr.cs cs
    have pk := w.2.2.2.2.2.2.1 k hk
    obtain ⟨rest, er⟩ := filt_prefix (fun k => sP s k != 0) (show k ≤ sN s by omega)
    have len : ((List.range k).filter (fun k => sP s k != 0)).length + rest.length = pinN s := by
      rw [← pLs_len]; unfold pLs; rw [er, List.length_append]
    have mono := filt_mono (fun k => sP s k != 0) (show k + 1 ≤ sN s from hk)
    rw [filt_succ, List.length_append] at mono
    have le6 : ((List.range (sN s)).filter (fun k => sP s k != 0)).length ≤ 6 := by rw [filt_len]; exact n6
    show (∃ x' : mH, x_X5_listPins_7 N 2 (f + 1) (nI k) x = x_X5_listPins_7 N 2 f (nI (k + 1)) x' ∧ _) ∨ ∃ h', x_X5_listPins_7 N 2 (f + 1) (nI k) x = some h' ∧ _
    rw [x_X5_listPins_7_s, ccells_eq w csx, Option.bind_some, if_neg (nI_ge hk (by omega)), x1]
    by_cases c6 : ((List.range k).filter (fun k => sP s k != 0)).length = 6
    · refine Or.inr ⟨x, by rw [if_pos (show (6 : Int32) ≤ nI _ from by rw [c6]; decide)], ?_, fr⟩
      have : rest = [] := List.length_eq_zero_iff.mp (by omega)
      have e : pLs s = (List.range k).filter (fun k => sP s k != 0) := by unfold pLs; rw [er, this, List.append_nil]
      rw [e]
      exact ⟨x1, x2⟩
    · refine Or.inl ?_
      rw [if_neg (show ¬ (6 : Int32) ≤ nI _ from nI_ge (b := 6) (by omega) (by decide)), pinOf_eq w csx hk, Option.bind_some]
      unfold x_X5_listPins_52
      by_cases c : sP s k = 0
      · refine ⟨x, by rw [if_pos (by rw [c]; rfl), nI_1], ?_, fr⟩
        rw [filt_succ, if_neg (by simp [c]), List.append_nil]
        exact ⟨x1, x2⟩
      · have cp : (sP s k != 0) = true := by simp [c]
        refine ⟨msi (msi x 71 ((List.range k).filter (fun k => sP s k != 0)).length (nI k)) 70 3 (nI (((List.range k).filter (fun k => sP s k != 0)).length + 1)), ?_, ?_, fr.trans ((frPs_i (by omega)).trans (frPs_i (by omega)))⟩
        · rw [if_neg (nI_ne0 (by omega) (by omega)), mck_ok (vp_in_nI (by omega) (by decide)), nI_clamp (by omega), mlet_eq, mlet_eq, mgi_msi, if_neg (by omega), x1, nI_1, nI_1]
        · rw [filt_succ, if_pos cp]
          refine ⟨by rw [mgi_same, List.length_append]; rfl, fun j hj => ?_⟩
          rw [getD_appN hj, mgi_msi, if_neg (by omega), mgi_msi]
          by_cases d : j = ((List.range k).filter (fun k => sP s k != 0)).length
          · rw [if_pos ⟨rfl, d⟩, if_pos d]
          · rw [if_neg (fun q => d q.2), if_neg d]
            refine x2 j ?_
            rw [List.length_append] at hj
            simp only [List.length_cons, List.length_nil] at hj
            omega
  · refine ⟨x, ?_, hx⟩
    show x_X5_listPins_7 N 2 (f + 1) (nI (sN s)) x = _
    rw [x_X5_listPins_7_s, ccells_eq w (hx.2.cs cs), Option.bind_some, if_pos (nI_le (Nat.le_refl _) (by omega))]
theorem shl_b (b : Bool) {i : Nat} (hi : i < 32) : (if b then (1 : Int32) else 0) <<< (nI i &&& 31) = nI (if b then 2 ^ i else 0) := by
  cases b
  · show (0 : Int32) <<< (nI i &&& 31) = nI 0
    rw [show (0 : Int32) = nI 0 from rfl, shl_nI _ _ hi, Nat.zero_mul]
  · show (1 : Int32) <<< (nI i &&& 31) = nI (2 ^ i)
    rw [show (1 : Int32) = nI 1 from rfl, shl_nI _ _ hi, Nat.one_mul]
theorem broken_eq {N x : Nat} {s : Sh} {h : mH} (hN : 40 < N) (w : WS s) (cs : CS h 2 s) (pl : PL h (pLs s)) (hx : x < 2 ^ sN s) : x_X5_brokenBy N 2 (shl s x) h = some (nI (brN s x)) := by
  have n20 := w.n20
  have n6 : pinN s ≤ 6 := w.2.2.2.2.2.2.2
  have ll := pLs_len s
  unfold x_X5_brokenBy
  rw [mlet_eq, cs.2.2.2.2.1, cs.2.2.2.2.2.1]
  refine lpV (fun f (v : Int32) i => x_X5_brokenBy_18 N ((shl s x ^^^ nI (cmask (fun k => sP s k == 1) (sN s))) &&& nI (cmask (fun k => sP s k != 0) (sN s))) h f v i) (fun j => nI (stN (fun i => brk s x ((pLs s).getD i 0)) j)) (pinN s) _ (fun f j hj => ?_) (fun f => ?_) (by omega)
  · obtain ⟨k1, k2⟩ := pLs_at hj
    show x_X5_brokenBy_18 N _ h (f + 1) _ (nI j) = x_X5_brokenBy_18 N _ h f _ (nI (j + 1))
    rw [x_X5_brokenBy_18_s, pl.1, ll, if_neg (nI_ge hj (by omega)), mck_ok (vp_in_nI (by omega) (by decide)), nI_clamp (by omega), pl.2 j (by omega), yesIn_eq _ (by omega), Option.bind_some, mlet_eq, nI_1, b_and, b_xor, bt_shl_at w hx k1, bt_cm w _ k1, bt_cm w _ k1]
    have e : ((cb s x ((pLs s).getD j 0) ^^ (sP s ((pLs s).getD j 0) == 1)) && (sP s ((pLs s).getD j 0) != 0)) = brk s x ((pLs s).getD j 0) := by
      unfold brk
      have : (sP s ((pLs s).getD j 0) != 0) = true := bne_iff_ne.mpr k2
      rw [this, Bool.and_true]
    rw [e, shl_b _ (by omega), stN_or (fun i => brk s x ((pLs s).getD i 0))]
  · show x_X5_brokenBy_18 N _ h (f + 1) _ (nI (pinN s)) = _
    rw [x_X5_brokenBy_18_s, pl.1, ll, if_pos (nI_le (Nat.le_refl _) (by omega))]
    rfl
theorem pw6 : ∀ p, p < 7 → (1 : Int32) <<< (nI p &&& 31) = nI (2 ^ p) := by decide +kernel
theorem p64 {p : Nat} (h : p ≤ 6) : 2 ^ p ≤ 64 := Nat.le_trans (Nat.pow_le_pow_right (n := 2) (by decide) h) (by decide)
def bkN (s : Sh) (n b : Nat) : Nat := fb_ct (fun j => decide (brN s ((ans0 s).getD j 0) = b)) n
def LF (h : mH) (s : Sh) : Prop := ∀ t, t < 2 ^ pinN s → mgi h 73 t = nI (lft s t)
theorem cweigh {N : Nat} {s : Sh} {h : mH} (hN : 1000 < N) (w : WS s) (cs : CS h 2 s) (al : AL h 5 s) : ∃ h', x_X5_weigh N 1 h = some h' ∧ PL h' (pLs s) ∧ LF h' s ∧ frPs h h' := by
  have n6 : pinN s ≤ 6 := w.2.2.2.2.2.2.2
  have q64 := p64 n6
  have l310 := ans0_310 w
  unfold x_X5_weigh
  obtain ⟨h1, e1, pl1, f1⟩ := clistPins (N := N) (by omega) w cs
  have cs1 := f1.cs cs
  have al1 := f1.al al
  show ∃ h', ((x_X5_listPins N 2 h).bind _) = some h' ∧ _
  rw [e1, Option.bind_some, mlet_eq, pl1.1, pLs_len, pw6 _ (by omega)]
  have fin : ∀ x, frPs h x → frPs h1 x → PL x (pLs s) → (∀ b, b < 2 ^ pinN s → mgi x 72 b = nI (bkN s (ans0 s).length b)) → (∀ b, b < 2 ^ pinN s → mgi x 73 b = 0) → ∃ h', x_X5_weigh_89 N (nI (2 ^ pinN s)) N 0 x = some h' ∧ PL h' (pLs s) ∧ LF h' s ∧ frPs h h' := fun x fx _ px bx zx => by
    refine lpI (fun f (y : mH) i => x_X5_weigh_89 N (nI (2 ^ pinN s)) f i y) (fun t y => PL y (pLs s) ∧ frPs h y ∧ (∀ b, b < 2 ^ pinN s → mgi y 72 b = nI (bkN s (ans0 s).length b)) ∧ (∀ b, b < 2 ^ pinN s → mgi y 73 b = if b < t then nI (lft s b) else 0)) (fun o => ∃ h', o = some h' ∧ PL h' (pLs s) ∧ LF h' s ∧ frPs h h') (2 ^ pinN s) (fun f t y ht hy => ?_) (fun f y hy => ?_) N 0 x (Nat.zero_le _) (by omega) ⟨px, fx, bx, fun b hb => by rw [if_neg (by omega)]; exact zx b hb⟩
    · obtain ⟨y1, y2, y3, y4⟩ := hy
      show (∃ y' : mH, x_X5_weigh_89 N (nI (2 ^ pinN s)) (f + 1) (nI t) y = x_X5_weigh_89 N (nI (2 ^ pinN s)) f (nI (t + 1)) y' ∧ _) ∨ _
      rw [x_X5_weigh_89_s, if_neg (nI_ge ht (by omega))]
      have key : fb_sm (fun b => if decide (t &&& b = 0) then bkN s (ans0 s).length b else 0) (2 ^ pinN s) = lft s t := sm_count (fun b => decide (t &&& b = 0)) (fun j => brN s ((ans0 s).getD j 0)) (2 ^ pinN s) (ans0 s).length (fun j _ => brN_lt s _)
      refine Or.inl (lpI (fun g (y : mH) i => x_X5_weigh_97 N (x_X5_weigh_89 N (nI (2 ^ pinN s)) f) (nI (2 ^ pinN s)) (nI t) g i y) (fun u y => PL y (pLs s) ∧ frPs h y ∧ (∀ b, b < 2 ^ pinN s → mgi y 72 b = nI (bkN s (ans0 s).length b)) ∧ (∀ b, b < 2 ^ pinN s → mgi y 73 b = if b < t then nI (lft s b) else if b = t then nI (fb_sm (fun b => if decide (t &&& b = 0) then bkN s (ans0 s).length b else 0) u) else 0)) (fun o => ∃ y' : mH, o = x_X5_weigh_89 N (nI (2 ^ pinN s)) f (nI (t + 1)) y' ∧ PL y' (pLs s) ∧ frPs h y' ∧ (∀ b, b < 2 ^ pinN s → mgi y' 72 b = nI (bkN s (ans0 s).length b)) ∧ (∀ b, b < 2 ^ pinN s → mgi y' 73 b = if b < t + 1 then nI (lft s b) else 0)) (2 ^ pinN s) (fun g u y hu hz => ?_) (fun g y hz => ?_) N 0 y (Nat.zero_le _) (by omega) ⟨y1, y2, y3, fun b hb => by
        rw [y4 b hb]
        by_cases d : b < t
        · rw [if_pos d, if_pos d]
        · rw [if_neg d, if_neg d]
          by_cases e : b = t
          · rw [if_pos e]; rfl
          · rw [if_neg e]⟩)
      · obtain ⟨z1, z2, z3, z4⟩ := hz
        refine Or.inl ⟨msi y 73 t (nI (fb_sm (fun b => if decide (t &&& b = 0) then bkN s (ans0 s).length b else 0) (u + 1))), ?_, z1.congr (by rw [mgi_msi, if_neg (by omega)]) (fun k => by rw [mgi_msi, if_neg (by omega)]), z2.trans (frPs_i (by omega)), fun b hb => by rw [mgi_msi, if_neg (by omega)]; exact z3 b hb, fun b hb => ?_⟩
        · show x_X5_weigh_97 N (x_X5_weigh_89 N (nI (2 ^ pinN s)) f) (nI (2 ^ pinN s)) (nI t) (g + 1) (nI u) y = x_X5_weigh_97 N (x_X5_weigh_89 N (nI (2 ^ pinN s)) f) (nI (2 ^ pinN s)) (nI t) g (nI (u + 1)) _
          have z4t := z4 t ht
          rw [if_neg (by omega), if_pos rfl] at z4t
          have tu : (t &&& u) < 2 ^ 31 := Nat.lt_of_le_of_lt (Nat.and_le_left) (by omega)
          rw [x_X5_weigh_97_s, if_neg (nI_ge hu (by omega)), mck_ok (vp_in_nI (by omega) (by decide)), nI_clamp (by omega), z4t, fa_and]
          unfold x_X5_weigh_128
          rw [mck_ok (vp_in_nI (show t < 64 by omega) (by decide)), mck_ok (vp_in_nI (show u < 64 by omega) (by decide)), mck_ok (vp_in_nI (show t < 64 by omega) (by decide)), nI_clamp (by omega), nI_clamp (by omega), z3 u hu, mlet_eq, mlet_eq, nI_1, fb_sm_succ]
          by_cases c : t &&& u = 0
          · rw [if_neg (not_not_intro (by rw [c]; rfl)), nI_add, if_pos (by simp [c])]
          · rw [if_pos (nI_ne0 (by omega) tu), if_neg (by simp [c])]
            show x_X5_weigh_97 N (x_X5_weigh_89 N (nI (2 ^ pinN s)) f) (nI (2 ^ pinN s)) (nI t) g (nI (u + 1)) (msi y 73 t (nI _ + nI 0)) = _
            rw [nI_add]
        · rw [mgi_msi]
          by_cases d : b = t
          · rw [if_pos ⟨rfl, d⟩, if_neg (by omega), if_pos d]
          · rw [if_neg (fun q => d q.2), z4 b hb, if_neg d, if_neg d]
      · obtain ⟨z1, z2, z3, z4⟩ := hz
        refine ⟨y, ?_, z1, z2, z3, fun b hb => ?_⟩
        · show x_X5_weigh_97 N (x_X5_weigh_89 N (nI (2 ^ pinN s)) f) (nI (2 ^ pinN s)) (nI t) (g + 1) (nI (2 ^ pinN s)) y = _
          rw [x_X5_weigh_97_s, if_pos (nI_le (Nat.le_refl _) (by omega)), nI_1]
        · rw [z4 b hb, key]
          by_cases d : b < t
          · rw [if_pos d, if_pos (by omega)]
          · rw [if_neg d]
            by_cases e : b = t
            · rw [if_pos e, if_pos (by omega), e]
            · rw [if_neg e, if_neg (by omega)]
    · obtain ⟨y1, y2, y3, y4⟩ := hy
      refine ⟨y, ?_, y1, fun t ht => by rw [y4 t ht, if_pos ht], y2⟩
      show x_X5_weigh_89 N (nI (2 ^ pinN s)) (f + 1) (nI (2 ^ pinN s)) y = _
      rw [x_X5_weigh_89_s, if_pos (nI_le (Nat.le_refl _) (by omega))]
  refine lpI (fun f (y : mH) i => x_X5_weigh_17 N 1 (nI (2 ^ pinN s)) f i y) (fun t y => PL y (pLs s) ∧ frPs h1 y ∧ ∀ b, b < t → mgi y 72 b = 0 ∧ mgi y 73 b = 0) (fun o => ∃ h', o = some h' ∧ PL h' (pLs s) ∧ LF h' s ∧ frPs h h') (2 ^ pinN s) (fun f t y ht hy => ?_) (fun f y hy => ?_) N 0 h1 (Nat.zero_le _) (by omega) ⟨pl1, frPs.refl, fun b hb => by omega⟩
  · obtain ⟨y1, y2, y3⟩ := hy
    refine Or.inl ⟨msi (msi y 72 t 0) 73 t 0, ?_, y1.congr (by rw [mgi_msi, if_neg (by omega), mgi_msi, if_neg (by omega)]) (fun k => by rw [mgi_msi, if_neg (by omega), mgi_msi, if_neg (by omega)]), y2.trans ((frPs_i (by omega)).trans (frPs_i (by omega))), fun b hb => ?_⟩
    · show x_X5_weigh_17 N 1 (nI (2 ^ pinN s)) (f + 1) (nI t) y = x_X5_weigh_17 N 1 (nI (2 ^ pinN s)) f (nI (t + 1)) _
      rw [x_X5_weigh_17_s, if_neg (nI_ge ht (by omega)), mck_ok (vp_in_nI (by omega) (by decide)), nI_clamp (by omega), mlet_eq, mck_ok (vp_in_nI (by omega) (by decide)), mlet_eq, nI_1]
    · by_cases d : b = t
      · rw [d, mgi_msi, if_neg (by omega), mgi_same, mgi_same]; exact ⟨rfl, rfl⟩
      · rw [mgi_msi, if_neg (by omega), mgi_msi, if_neg (by omega), mgi_msi, if_neg (by omega), mgi_msi, if_neg (by omega)]
        exact y3 b (by omega)
  · obtain ⟨y1, y2, y3⟩ := hy
    show ∃ h', x_X5_weigh_17 N 1 (nI (2 ^ pinN s)) (f + 1) (nI (2 ^ pinN s)) y = some h' ∧ _
    rw [x_X5_weigh_17_s, if_pos (nI_le (Nat.le_refl _) (by omega))]
    refine lpI (fun g (x : mH) i => x_X5_weigh_44 N 1 (nI (2 ^ pinN s)) g i x) (fun k x => PL x (pLs s) ∧ frPs h1 x ∧ (∀ b, b < 2 ^ pinN s → mgi x 72 b = nI (bkN s k b)) ∧ ∀ b, b < 2 ^ pinN s → mgi x 73 b = 0) (fun o => ∃ h', o = some h' ∧ PL h' (pLs s) ∧ LF h' s ∧ frPs h h') (ans0 s).length (fun g k x hk hx => ?_) (fun g x hx => ?_) N 0 y (by omega) (by omega) ⟨y1, y2, fun b hb => (y3 b hb).1, fun b hb => (y3 b hb).2⟩
    · obtain ⟨x1, x2, x3, x4⟩ := hx
      have alx := x2.al al1
      have csx := x2.cs cs1
      have hq := ans0_lt (getD_mem hk)
      have bl := brN_lt s ((ans0 s).getD k 0)
      refine Or.inl ⟨msi x 72 (brN s ((ans0 s).getD k 0)) (nI (bkN s (k + 1) (brN s ((ans0 s).getD k 0)))), ?_, x1.congr (by rw [mgi_msi, if_neg (by omega)]) (fun j => by rw [mgi_msi, if_neg (by omega)]), x2.trans (frPs_i (by omega)), fun b hb => ?_, fun b hb => by rw [mgi_msi, if_neg (by omega)]; exact x4 b hb⟩
      · show x_X5_weigh_44 N 1 (nI (2 ^ pinN s)) (g + 1) (nI k) x = x_X5_weigh_44 N 1 (nI (2 ^ pinN s)) g (nI (k + 1)) _
        have e1 : mgi x (1 + 4) 1 = nI (ans0 s).length := alx.1
        have e2 : mgi x (1 + 4 + 1) k = shl s ((ans0 s).getD k 0) := alx.2.1 k hk
        have e3 : x_X5_brokenBy N (1 + 1) (shl s ((ans0 s).getD k 0)) x = some (nI (brN s ((ans0 s).getD k 0))) := broken_eq (by omega) w csx x1 hq
        rw [x_X5_weigh_44_s, e1, if_neg (nI_ge hk (by omega)), mck_ok (vp_in_nI (by omega) (by decide)), nI_clamp (by omega), e2, e3, Option.bind_some, mck_ok (vp_in_nI (by omega) (by decide)), mck_ok (vp_in_nI (by omega) (by decide)), nI_clamp (by omega), x3 _ bl, mlet_eq, nI_1, nI_1]
        congr 2
        unfold bkN
        rw [fb_ct_succ, if_pos (by simp)]
      · rw [mgi_msi]
        by_cases d : b = brN s ((ans0 s).getD k 0)
        · rw [if_pos ⟨rfl, d⟩, d]
        · rw [if_neg (fun q => d q.2), x3 b hb]
          unfold bkN
          rw [fb_ct_succ, if_neg (by rw [decide_eq_true_eq]; exact fun q => d q.symm)]
          rfl
    · obtain ⟨x1, x2, x3, x4⟩ := hx
      have e1 : mgi x (1 + 4) 1 = nI (ans0 s).length := (x2.al al1).1
      show ∃ h', x_X5_weigh_44 N 1 (nI (2 ^ pinN s)) (g + 1) (nI (ans0 s).length) x = some h' ∧ _
      rw [x_X5_weigh_44_s, e1, if_pos (nI_le (Nat.le_refl _) (by omega))]
      exact fin x (f1.trans x2) x2 x1 x3 x4
