/-! the test -/
def icb (b : Nat) : Prop := ¬ (8 ≤ b ∧ b ≤ 14) ∧ ¬ (17 ≤ b ∧ b ≤ 19) ∧ ¬ (64 ≤ b ∧ b ≤ 66) ∧ ¬ (69 ≤ b ∧ b ≤ 74)
/-- the class's scratch cells count nowhere -/
theorem IC.scr {t : Nat} {h h' : mH} {z : St} (m : IC t h z) (e : ∀ b k, icb b → mgi h' b k = mgi h b k) (el : ∀ b k, b ≠ 12 → mgl h' b k = mgl h b k) (tr : mgl h' 12 7 = -9 ∨ ∃ s, WS s ∧ AL h' 12 s) : IC t h' z := by
  obtain ⟨x1, x2, x3, x4, x5, x6, x7, x8, x9, x10⟩ := m
  have e' : ∀ b, icb b → ∀ k, mgi h' b k = mgi h b k := fun b hb k => e b k hb
  refine ⟨⟨by rw [e' 15 (by unfold icb; omega)]; exact x1.1, fun k hk => by rw [e' 16 (by unfold icb; omega)]; exact x1.2 k hk⟩, x2.congr (e' _ (by unfold icb; omega)) (e' _ (by unfold icb; omega)) (e' _ (by unfold icb; omega)), x3.congr (e' _ (by unfold icb; omega)) (e' _ (by unfold icb; omega)) (e' _ (by unfold icb; omega)) (fun k => el 5 k (by omega)), ?_, x5.congr (e' _ (by unfold icb; omega)) (e' _ (by unfold icb; omega)) (e' _ (by unfold icb; omega) _), tr, ?_, ?_, ?_, by rw [el 0 12 (by omega)]; exact x10⟩
  · obtain ⟨ed, d1, d2, e2, d3, d4⟩ := x4
    exact ⟨ed, d1, by rw [e' 5 (by unfold icb; omega)]; exact d2, e2, d3, by rw [e' 67 (by unfold icb; omega)]; exact d4⟩
  · have : iA h z.2.2.1 := x7
    exact this.congr (fun b b1 b2 k => e' b (by unfold icb; omega) k)
  · have : iK h z.2.2.2.1 := x8
    exact this.congr (fun b b1 b2 k => e' b (by unfold icb; omega) k)
  · exact ⟨by rw [e' 0 (by unfold icb; omega)]; exact x9.1, by rw [e' 0 (by unfold icb; omega)]; exact x9.2.1, by rw [e' 0 (by unfold icb; omega)]; exact x9.2.2⟩
/-- as before, where the trial's list stays -/
theorem IC.scr' {t : Nat} {h h' : mH} {z : St} (m : IC t h z) (e : ∀ b k, (icb b ∨ b = 12 ∨ b = 13 ∨ b = 14) → mgi h' b k = mgi h b k) (el : ∀ b k, mgl h' b k = mgl h b k) : IC t h' z := by
  refine m.scr (fun b k hb => e b k (Or.inl hb)) (fun b k _ => el b k) ?_
  rcases m.2.2.2.2.2.1 with g | ⟨s, g1, g2⟩
  · exact Or.inl (by rw [el]; exact g)
  · exact Or.inr ⟨s, g1, g2.congr (fun k => e _ k (by omega)) (fun k => e _ k (by omega)) (fun k => e _ k (by omega)) (fun k => el _ k)⟩
/-! the order of rows -/
def shf (T : Nat → Nat) (r : Nat) : Nat → (Nat → Nat) → (Nat → Nat)
  | 0, a => fun j => if j = 0 then r else a j
  | p + 1, a => if T (a p) < T r then shf T r p (fun j => if j = p + 1 then a p else a j) else fun j => if j = p + 1 then r else a j
def ord (T : Nat → Nat) : Nat → (Nat → Nat)
  | 0 => fun _ => 0
  | r + 1 => shf T r r (ord T r)
theorem shf_lt (T : Nat → Nat) (r n : Nat) (hr : r < n) : ∀ (p : Nat) (a : Nat → Nat), p ≤ r → (∀ j, j ≤ r → j ≠ p → a j < n) → ∀ j, j ≤ r → shf T r p a j < n := by
  intro p
  induction p with
  | zero =>
    intro a hp h j hj
    rw [shf]
    show (if j = 0 then r else a j) < n
    by_cases c : j = 0
    · rw [if_pos c]; exact hr
    · rw [if_neg c]; exact h j hj c
  | succ p ih =>
    intro a hp h j hj
    rw [shf]
    by_cases c : T (a p) < T r
    · rw [if_pos c]
      refine ih _ (by omega) (fun i hi hne => ?_) j hj
      by_cases d : i = p + 1
      · rw [if_pos d]; exact h p (by omega) (by omega)
      · rw [if_neg d]; exact h i hi d
    · rw [if_neg c]
      by_cases d : j = p + 1
      · rw [if_pos d]; exact hr
      · rw [if_neg d]; exact h j hj d
theorem ord_lt (T : Nat → Nat) : ∀ r j, j < r → ord T r j < r
  | 0, j, h => by omega
  | r + 1, j, h => by
    rw [ord]
    exact shf_lt T r (r + 1) (by omega) r _ (Nat.le_refl _) (fun i hi hne => by have := ord_lt T r i (by omega); omega) j (by omega)
def tL (s : Sh) : List Nat := (List.range (sH s)).map (sR s)
def tA (s : Sh) (j : Nat) : Nat := (tL s).getD j 0
theorem tA_eq {s : Sh} {j : Nat} (h : j < sH s) : tA s j = sR s j := by
  unfold tA tL
  simp [h]
def frF (h h' : mH) : Prop := (∀ b k, b ≠ 65 → mgi h' b k = mgi h b k) ∧ ∀ b k, mgl h' b k = mgl h b k
theorem frF.refl {h : mH} : frF h h := ⟨fun _ _ _ => rfl, fun _ _ => rfl⟩
theorem frF.trans {h h1 h2 : mH} (a : frF h h1) (b : frF h1 h2) : frF h h2 := ⟨fun c k x => (b.1 c k x).trans (a.1 c k x), fun c k => (b.2 c k).trans (a.2 c k)⟩
theorem frF.cs {a : Nat} {h h' : mH} {s : Sh} (f : frF h h') (ha : a + 2 < 65) (m : CS h a s) : CS h' a s := m.congr (fun k => f.1 _ k (by omega)) (fun k => f.1 _ k (by omega)) (fun k => f.1 _ k (by omega))
theorem totalOf0 {a i : Nat} {s : Sh} {h : mH} (w : WS s) (cs : CS h a s) (hi : i < sH s) : x_X6_totalOf a 0 (nI i) h = some (nI (tA s i)) := by
  rw [tA_eq hi]
  exact totalOf_eq (side := 0) w cs (by decide) hi
theorem tA_le {s : Sh} (w : WS s) (j : Nat) : tA s j ≤ 5 := by
  by_cases h : j < sH s
  · rw [tA_eq h]
    have := w.2.2.2.2.1 j h
    have := w.2.2.2.1
    omega
  · unfold tA tL
    rw [List.getD_eq_getElem?_getD, List.getElem?_eq_none (by simp; omega)]
    simp
theorem ins_eq {N a r : Nat} {s : Sh} {self2 : Int32 → mH → Option mH} (w : WS s) (ha : a + 2 < 65) (hr : r < sH s) : ∀ (p f : Nat) (A : Nat → Nat) (h : mH), p ≤ r → p < f → CS h a s → (∀ j, j ≤ r → j ≠ p → mgi h 65 j = nI (A j) ∧ A j < sH s) → ∃ h', x_X3_orderRows_12 N self2 a (nI r) f (nI p) h = self2 (nI (r + 1)) h' ∧ (∀ j, j ≤ r → mgi h' 65 j = nI (shf (tA s) r p A j)) ∧ frF h h' := by
  have h4 := w.2.1
  intro p
  induction p with
  | zero =>
    intro f A h hp hf cs hA
    obtain ⟨f, rfl⟩ : ∃ e, f = e + 1 := ⟨f - 1, by omega⟩
    refine ⟨msi h 65 0 (nI r), ?_, fun j hj => ?_, fun b k hb => by rw [mgi_msi, if_neg (by omega)], fun b k => rfl⟩
    · rw [x_X3_orderRows_12_s, if_pos (by decide)]
      unfold x_X3_orderRows_58
      rw [mck_ok (vp_in_nI (by omega) (by decide)), mlet_eq, nI_clamp (by omega), nI_1]
    · rw [mgi_msi, shf]
      show _ = nI (if j = 0 then r else A j)
      by_cases c : j = 0
      · rw [if_pos ⟨rfl, c⟩, if_pos c]
      · rw [if_neg (fun x => c x.2), if_neg c]
        exact (hA j hj c).1
  | succ p ih =>
    intro f A h hp hf cs hA
    obtain ⟨f, rfl⟩ : ∃ e, f = e + 1 := ⟨f - 1, by omega⟩
    obtain ⟨a1, a2⟩ := hA p (by omega) (by omega)
    have l1 := tA_le w (A p)
    have l2 := tA_le w r
    have hd : x_X3_orderRows_12 N self2 a (nI r) (f + 1) (nI (p + 1)) h = if nI (tA s r) ≤ nI (tA s (A p)) then x_X3_orderRows_58 N self2 a (nI r) (nI (p + 1)) h else x_X3_orderRows_12 N self2 a (nI r) f (nI p) (msi h 65 (p + 1) (nI (A p))) := by
      rw [x_X3_orderRows_12_s, if_neg (nI_nle (by omega) (by omega)), nI_pred, mck_ok (vp_in_nI (by omega) (by decide)), nI_clamp (by omega), a1, totalOf0 w cs a2, Option.bind_some, totalOf0 w cs hr, Option.bind_some, mck_ok (vp_in_nI (by omega) (by decide)), mck_ok (vp_in_nI (by omega) (by decide)), mlet_eq, nI_clamp (by omega), pk_m1]
    rw [hd, shf]
    by_cases c : tA s (A p) < tA s r
    · rw [if_neg (nI_ge c (by omega)), if_pos c]
      obtain ⟨h', e1, e2, e3⟩ := ih f (fun j => if j = p + 1 then A p else A j) (msi h 65 (p + 1) (nI (A p))) (by omega) (by omega) (cs.congr (fun k => by rw [mgi_msi, if_neg (by omega)]) (fun k => by rw [mgi_msi, if_neg (by omega)]) (fun k => by rw [mgi_msi, if_neg (by omega)])) (fun j hj hne => by
        rw [mgi_msi]
        by_cases d : j = p + 1
        · rw [if_pos ⟨rfl, d⟩, if_pos d]; exact ⟨rfl, a2⟩
        · rw [if_neg (fun x => d x.2), if_neg d]; exact hA j hj d)
      exact ⟨h', e1, e2, frF.trans (h1 := msi h 65 (p + 1) (nI (A p))) ⟨fun b k hb => by rw [mgi_msi, if_neg (by omega)], fun b k => rfl⟩ e3⟩
    · rw [if_pos (nI_le (by omega) (by omega)), if_neg c]
      refine ⟨msi h 65 (p + 1) (nI r), ?_, fun j hj => ?_, fun b k hb => by rw [mgi_msi, if_neg (by omega)], fun b k => rfl⟩
      · unfold x_X3_orderRows_58
        rw [mck_ok (vp_in_nI (by omega) (by decide)), mlet_eq, nI_clamp (by omega), nI_1]
      · rw [mgi_msi]
        by_cases d : j = p + 1
        · rw [if_pos ⟨rfl, d⟩, if_pos d]
        · rw [if_neg (fun x => d x.2), if_neg d]
          exact (hA j hj d).1
def oR (s : Sh) : Nat → Nat := ord (tA s) (sH s)
theorem oR_lt {s : Sh} {j : Nat} (h : j < sH s) : oR s j < sH s := ord_lt _ _ j h
theorem orderRows_eq {N a : Nat} {s : Sh} {h : mH} (hN : 10 < N) (w : WS s) (ha : a + 2 < 65) (cs : CS h a s) : ∃ h', x_X3_orderRows N a h = some h' ∧ (∀ j, j < sH s → mgi h' 65 j = nI (oR s j)) ∧ frF h h' := by
  have h4 := w.2.1
  unfold x_X3_orderRows
  refine lpI (fun f (x : mH) i => x_X3_orderRows_2 N a f i x) (fun r x => (∀ j, j < r → mgi x 65 j = nI (ord (tA s) r j)) ∧ frF h x) (fun o => ∃ h', o = some h' ∧ (∀ j, j < sH s → mgi h' 65 j = nI (oR s j)) ∧ frF h h') (sH s) (fun f r x hr hx => ?_) (fun f x hx => ?_) N 0 h (by omega) (by omega) ⟨fun j hj => by omega, frF.refl⟩
  · have cs' := hx.2.cs ha cs
    obtain ⟨h', e1, e2, e3⟩ := ins_eq (N := N) (self2 := x_X3_orderRows_2 N a f) w ha hr r N (ord (tA s) r) x (Nat.le_refl _) (by omega) cs' (fun j hj hne => ⟨hx.1 j (by omega), by have := ord_lt (tA s) r j (by omega); omega⟩)
    refine Or.inl ⟨h', ?_, fun j hj => by rw [ord]; exact e2 j (by omega), hx.2.trans e3⟩
    show x_X3_orderRows_2 N a (f + 1) (nI r) x = x_X3_orderRows_2 N a f (nI (r + 1)) h'
    rw [x_X3_orderRows_2_s, cs'.1, if_neg (nI_ge hr (by omega)), e1]
  · refine ⟨x, ?_, hx⟩
    show x_X3_orderRows_2 N a (f + 1) (nI (sH s)) x = _
    rw [x_X3_orderRows_2_s, (hx.2.cs ha cs).1, if_pos (nI_le (Nat.le_refl _) (by omega))]
/-! the test of the class -/
def topN (s : Sh) (k : Nat) : Nat := fb_sm (fun i => tA s (oR s i)) k
def roomN (s : Sh) (k : Nat) : Nat := fb_sm (fun c => if k ≤ sC s c then k else sC s c) (sW s)
def tstP (s : Sh) (k : Nat) : Bool := decide (roomN s (k + 1) < topN s (k + 1))
def tst (s : Sh) : Int32 := if sumS s 0 = sumS s 1 then fsV (tstP s) (fun k => k + 1) (sH s) else 0
theorem sumS_le {s : Sh} (w : WS s) (side : Nat) : sumS s side ≤ 25 := by
  unfold sumS
  have n5 := cntS_le w side
  have : fb_sm (totS s side) (cntS s side) ≤ cntS s side * 5 := fb_sm_bound (c := 5) fun k hk => by
    unfold totS
    unfold cntS at hk
    by_cases z : side = 0
    · rw [if_pos z] at hk ⊢
      have := w.2.2.2.2.1 k hk
      have := w.2.2.2.1
      omega
    · rw [if_neg z] at hk ⊢
      have := w.2.2.2.2.2.1 k hk
      have := w.2.1
      omega
  omega
theorem topN_le {s : Sh} (w : WS s) (k : Nat) : topN s k ≤ k * 5 := fb_sm_bound fun i _ => tA_le w _
theorem roomN_le {s : Sh} (w : WS s) (k : Nat) : roomN s k ≤ 20 := by
  have w5 := w.2.2.2.1
  have h4 := w.2.1
  have : roomN s k ≤ sW s * 4 := fb_sm_bound (c := 4) fun c hc => by
    have := w.2.2.2.2.2.1 c hc
    split <;> omega
  omega
theorem jmin_nI {a b : Nat} (ha : a < 2 ^ 31) (hb : b < 2 ^ 31) : x_J9_min_7cf53 (nI a) (nI b) = some (nI (if a ≤ b then a else b)) := by
  unfold x_J9_min_7cf53
  congr 1
  by_cases c : a ≤ b
  · rw [if_pos c, if_neg (nI_nlt c hb)]
  · rw [if_neg c, if_pos (nI_lt (by omega) ha)]
theorem roomOf_eq {N a k : Nat} {s : Sh} {h : mH} (hN : 10 < N) (hk : k < 2 ^ 31) (w : WS s) (cs : CS h a s) : x_X3_roomOf N a (nI k) h = some (nI (roomN s k)) := by
  have w5 := w.2.2.2.1
  have h4 := w.2.1
  unfold x_X3_roomOf
  refine lpV (fun f (x : Int32) i => x_X3_roomOf_4 N a (nI k) h f x i) (fun j => nI (fb_sm (fun c => if k ≤ sC s c then k else sC s c) j)) (sW s) _ (fun f j hj => ?_) (fun f => ?_) (by omega)
  · show x_X3_roomOf_4 N a (nI k) h (f + 1) _ (nI j) = x_X3_roomOf_4 N a (nI k) h f _ (nI (j + 1))
    have := w.2.2.2.2.2.1 j hj
    rw [x_X3_roomOf_4_s, cs.2.1, if_neg (nI_ge hj (by omega)), to_col w cs hj, Option.bind_some, jmin_nI hk (by omega), Option.bind_some, mlet_eq, nI_add, nI_1, fb_sm_succ]
  · show x_X3_roomOf_4 N a (nI k) h (f + 1) _ (nI (sW s)) = _
    rw [x_X3_roomOf_4_s, cs.2.1, if_pos (nI_le (Nat.le_refl _) (by omega))]
    rfl
theorem failsAt_eq {N a : Nat} {s : Sh} {h : mH} (hN : 10 < N) (w : WS s) (ha : a + 2 < 65) (cs : CS h a s) : ∃ h', x_X3_failsAt N a h = some (tst s, h') ∧ frF h h' := by
  have h4 := w.2.1
  have s0 := sumS_le w 0
  have s1 := sumS_le w 1
  unfold x_X3_failsAt tst
  have t0 : x_X6_together N a 0 h = some (nI (sumS s 0)) := together_eq (side := 0) hN w cs (by decide)
  have t1 : x_X6_together N a 1 h = some (nI (sumS s 1)) := together_eq (side := 1) hN w cs (by decide)
  rw [t0, t1, Option.bind_some, Option.bind_some]
  by_cases e : sumS s 0 = sumS s 1
  · rw [if_pos (by rw [e]), if_pos e]
    obtain ⟨h', o1, o2, o3⟩ := orderRows_eq (N := N) hN w ha cs
    have cs' := o3.cs ha cs
    refine ⟨h', ?_, o3⟩
    rw [o1, Option.bind_some]
    refine lpI (fun f (x : Int32) i => x_X3_failsAt_24 N a f x i h') (fun k x => 1 ≤ k ∧ x = nI (topN s (k - 1)) ∧ ∀ j, j + 1 < k → tstP s j = false) (fun o => o = some (fsV (tstP s) (fun k => k + 1) (sH s), h')) (sH s + 1) (fun f k x hk hx => ?_) (fun f x hx => ?_) N 1 0 (by omega) (by omega) ⟨Nat.le_refl _, rfl, fun j hj => by omega⟩
    · obtain ⟨k, rfl⟩ : ∃ j, k = j + 1 := ⟨k - 1, by omega⟩
      obtain ⟨-, x2, x3⟩ := hx
      rw [Nat.add_sub_cancel] at x2
      have tl := topN_le w (k + 1)
      have rl := roomN_le w (k + 1)
      have st : x_X3_failsAt_24 N a (f + 1) x (nI (k + 1)) h' = if nI (topN s (k + 1)) ≤ nI (roomN s (k + 1)) then x_X3_failsAt_24 N a f (nI (topN s (k + 1))) (nI (k + 1 + 1)) h' else some (nI (k + 1), h') := by
        rw [x_X3_failsAt_24_s, cs'.1, if_neg (nI_nlt (by omega) (by omega)), nI_pred, mck_ok (vp_in_nI (by omega) (by decide)), nI_clamp (by omega), o2 k (by omega), totalOf0 w cs' (oR_lt (by omega)), Option.bind_some, mlet_eq, x2, nI_add, roomOf_eq hN (by omega) w cs', Option.bind_some, nI_1]
        rfl
      show (∃ a', x_X3_failsAt_24 N a (f + 1) x (nI (k + 1)) h' = x_X3_failsAt_24 N a f a' (nI (k + 1 + 1)) h' ∧ _) ∨ x_X3_failsAt_24 N a (f + 1) x (nI (k + 1)) h' = _
      rw [st]
      by_cases c : roomN s (k + 1) < topN s (k + 1)
      · refine Or.inr ?_
        rw [if_neg (nI_ge c (by omega))]
        rw [← fsV_eq (r := nI (k + 1)) (Or.inr ⟨k, by omega, by unfold tstP; simp [c], rfl, fun i hi => x3 i (by omega)⟩)]
      · refine Or.inl ⟨nI (topN s (k + 1)), by rw [if_pos (nI_le (by omega) (by omega))], by omega, rfl, fun j hj => ?_⟩
        by_cases d : j = k
        · subst d; unfold tstP; simp [c]
        · exact x3 j (by omega)
    · obtain ⟨-, x2, x3⟩ := hx
      show x_X3_failsAt_24 N a (f + 1) x (nI (sH s + 1)) h' = _
      rw [x_X3_failsAt_24_s, cs'.1, if_pos (nI_lt (by omega) (by omega))]
      rw [← fsV_eq (r := -9) (Or.inl ⟨rfl, fun j hj => x3 j (by omega)⟩)]
  · rw [if_neg (fun q => e ((nI_eq (by omega) (by omega)).mp q)), if_neg e]
    exact ⟨h, rfl, frF.refl⟩
