/-! numberOf -/
theorem no_loop {N a len : Nat} {v : Int32} {h : mH} (hl : len ≤ 310) (sz : mgi h a 3 = nI len) (asc : ∀ i j, i < j → j < len → mgi h (a + 2) i < mgi h (a + 2) j) : ∀ (j f p : Nat), j < f → p + 2 ^ j ≤ 512 → (∀ k, p + 2 ^ j ≤ k → k < len → v < mgi h (a + 2) k) → (p = 0 ∨ p < len ∧ mgi h (a + 2) p ≤ v) → (∃ k, k < len ∧ mgi h (a + 2) k = v ∧ x_X1_numberOf_6 N a v h f (nI p) (nI (2 ^ j / 2)) = some (nI k)) ∨ ((∀ k, k < len → mgi h (a + 2) k ≠ v) ∧ x_X1_numberOf_6 N a v h f (nI p) (nI (2 ^ j / 2)) = some (-9)) := by
  intro j
  induction j with
  | zero =>
    intro f p h1 h2 h3 h4
    obtain ⟨f, rfl⟩ : ∃ e, f = e + 1 := ⟨f - 1, by omega⟩
    rw [x_X1_numberOf_6_s, if_pos (show nI (2 ^ 0 / 2) ≤ 0 by decide), sz]
    by_cases c : len ≤ p
    · rw [if_pos (nI_le c (by omega))]
      exact Or.inr ⟨fun k hk => by omega, rfl⟩
    · rw [if_neg (nI_ge (by omega) (by omega)), mck_ok (vp_in_nI (by omega) (by decide)), nI_clamp (by omega)]
      by_cases e : mgi h (a + 2) p = v
      · rw [if_neg (fun q => q e)]
        exact Or.inl ⟨p, by omega, e, rfl⟩
      · rw [if_pos e]
        refine Or.inr ⟨fun k hk => ?_, rfl⟩
        by_cases q : k < p
        · have r := asc k p q (by omega)
          have r2 : mgi h (a + 2) p ≤ v := by
            rcases h4 with h4 | h4
            · omega
            · exact h4.2
          exact (fa_of_lt (fa_trans r r2)).2.2.2.1
        · by_cases q2 : k = p
          · rw [q2]; exact e
          · exact (fa_of_lt (h3 k (by omega) hk)).2.2.2.2
  | succ j ih =>
    intro f p h1 h2 h3 h4
    obtain ⟨f, rfl⟩ : ∃ e, f = e + 1 := ⟨f - 1, by omega⟩
    have hp : 2 ^ (j + 1) = 2 * 2 ^ j := by rw [Nat.pow_succ, Nat.mul_comm]
    have h0 : 0 < 2 ^ j := Nat.two_pow_pos j
    have hd : 2 ^ (j + 1) / 2 = 2 ^ j := by omega
    rw [hd, x_X1_numberOf_6_s]
    unfold x_X1_numberOf_38
    simp only [mlet_eq]
    rw [if_neg (show ¬ nI (2 ^ j) ≤ 0 from nI_ge (a := 0) h0 (by omega)), nI_add, sz, show (2 : Int32) = nI 2 from rfl, pk_div (by omega) (by decide) (by decide)]
    by_cases c : len ≤ p + 2 ^ j
    · rw [if_pos (nI_le c (by omega))]
      exact ih f p (by omega) (by omega) (fun k a b => by omega) h4
    · rw [if_neg (nI_ge (by omega) (by omega)), mck_ok (vp_in_nI (by omega) (by decide)), nI_clamp (by omega)]
      by_cases q : v < mgi h (a + 2) (p + 2 ^ j)
      · rw [if_pos q]
        refine ih f p (by omega) (by omega) (fun k k1 k2 => ?_) h4
        by_cases e : k = p + 2 ^ j
        · rw [e]; exact q
        · exact fa_trans q (fa_of_lt (asc _ k (by omega) k2)).1
      · rw [if_neg q]
        exact ih f (p + 2 ^ j) (by omega) (by omega) (fun k k1 k2 => h3 k (by omega) k2) (Or.inr ⟨by omega, Int32.not_lt.mp q⟩)
theorem no_eq {N a len : Nat} {v : Int32} {h : mH} (hN : 400 < N) (hl : len ≤ 310) (sz : mgi h a 3 = nI len) (asc : ∀ i j, i < j → j < len → mgi h (a + 2) i < mgi h (a + 2) j) : (∃ k, k < len ∧ mgi h (a + 2) k = v ∧ x_X1_numberOf N a v h = some (nI k)) ∨ ((∀ k, k < len → mgi h (a + 2) k ≠ v) ∧ x_X1_numberOf N a v h = some (-9)) := by
  unfold x_X1_numberOf
  rw [show (256 : Int32) = nI (2 ^ 9 / 2) by decide]
  exact no_loop hl sz asc 9 N 0 (by omega) (by decide) (fun k h1 h2 => by omega) (Or.inl rfl)
/-- the number of an answer in a list -/
def nm (l : List Nat) (q : Nat) : Int32 := if q ∈ l then nI (l.idxOf q) else -9
theorem getD_lt {l : List Nat} (hs : l.Pairwise (· < ·)) {i j : Nat} (h : i < j) (hj : j < l.length) : l.getD i 0 < l.getD j 0 := by
  have hi : i < l.length := by omega
  have := List.pairwise_iff_getElem.mp hs i j hi hj h
  simpa [List.getD, hi, hj] using this
theorem getD_idx {l : List Nat} {q : Nat} (h : q ∈ l) : l.getD (l.idxOf q) 0 = q := by
  have h1 := List.idxOf_lt_length_of_mem h
  have := List.getElem_idxOf h1
  simp only [List.getD, List.getElem?_eq_getElem h1, Option.getD_some]
  exact this
theorem idx_getD {l : List Nat} (hs : l.Pairwise (· < ·)) {k : Nat} (hk : k < l.length) : l.idxOf (l.getD k 0) = k := by
  have hm := getD_mem hk
  have h1 := List.idxOf_lt_length_of_mem hm
  have h2 : l.getD (l.idxOf (l.getD k 0)) 0 = l.getD k 0 := getD_idx hm
  rcases Nat.lt_trichotomy (l.idxOf (l.getD k 0)) k with q | q | q
  · have := getD_lt hs q hk; omega
  · exact q
  · have := getD_lt hs q h1; omega
theorem AL.asc {h : mH} {a : Nat} {s : Sh} (w : WS s) (m : AL h a s) : ∀ i j, i < j → j < (ans s).length → mgi h (a + 2) i < mgi h (a + 2) j := by
  intro i j hij hj
  rw [m.2.2.2.1 i (by omega), m.2.2.2.1 j hj]
  exact shl_mono w (getD_lt (ans_sorted s) hij hj) (ans_lt (getD_mem hj))
theorem no_ans {N a q : Nat} {s : Sh} {h : mH} (hN : 400 < N) (w : WS s) (m : AL h a s) (hq : q < 2 ^ sN s) : x_X1_numberOf N a (shl s q) h = some (nm (ans s) q) := by
  unfold nm
  rcases no_eq (v := shl s q) hN (ans_310 w) m.2.2.1 (m.asc w) with ⟨k, hk, e1, e2⟩ | ⟨e1, e2⟩
  · rw [m.2.2.2.1 k hk, shl_inj w (ans_lt (getD_mem hk)) hq] at e1
    rw [e2, if_pos (e1 ▸ getD_mem hk), ← e1, idx_getD (ans_sorted s) hk]
  · rw [e2, if_neg]
    intro hm
    have h1 := List.idxOf_lt_length_of_mem hm
    exact e1 _ h1 (by rw [m.2.2.2.1 _ h1, getD_idx hm])
theorem shl_pos {s : Sh} (w : WS s) {q : Nat} (hq : q < 2 ^ sN s) : ¬ shl s q = -1 := by
  have := shl_lt w hq
  intro e
  have := congrArg Int32.toInt e
  unfold shl at this
  rw [nI_toInt (by omega), show (-1 : Int32).toInt = -1 by decide] at this
  omega
theorem no_none {N a : Nat} {s : Sh} {h : mH} (hN : 400 < N) (w : WS s) (m : AL h a s) : x_X1_numberOf N a (-1) h = some (-9) := by
  rcases no_eq (v := -1) hN (ans_310 w) m.2.2.1 (m.asc w) with ⟨k, hk, e1, e2⟩ | ⟨e1, e2⟩
  · rw [m.2.2.2.1 k hk] at e1
    exact absurd e1 (shl_pos w (ans_lt (getD_mem hk)))
  · exact e2
theorem nm_9 (l : List Nat) (q : Nat) (hl : l.length < 2 ^ 31) : nm l q = -9 ↔ ¬ q ∈ l := by
  unfold nm
  split
  · rename_i h
    have h1 := List.idxOf_lt_length_of_mem h
    refine ⟨fun e => ?_, fun e => absurd h e⟩
    have := congrArg Int32.toInt e
    rw [nI_toInt (by omega), show (-9 : Int32).toInt = -9 by decide] at this
    omega
  · rename_i h
    exact ⟨fun _ => h, fun _ => rfl⟩
/-! settle -/
def stl (s : Sh) : Sh := (s.1, match s.2 with
  | none => (ans s).head?
  | some q => if q ∈ ans s then some q else (ans s).head?)
theorem ans_p (s : Sh) (p : Option Nat) : ans (s.1, p) = ans s := rfl
theorem WS_p {s : Sh} (w : WS s) (p : Option Nat) : WS (s.1, p) := w
theorem WP_stl (s : Sh) : WP (stl s) := by
  unfold WP stl
  have e : ∀ p, ans (s.1, p) = ans s := fun _ => rfl
  simp only [e]
  cases hA : ans s with
  | nil =>
    left
    cases s.2 with
    | none => exact ⟨rfl, rfl⟩
    | some q => simp
  | cons x l =>
    right
    cases s.2 with
    | none => exact ⟨x, rfl, by simp⟩
    | some q =>
      by_cases c : q ∈ x :: l
      · exact ⟨q, by simp only [if_pos c], c⟩
      · exact ⟨x, by simp only [if_neg c]; rfl, by simp⟩
def PB (s : Sh) : Prop := ∀ q, s.2 = some q → q < 2 ^ sN s
def frS (t : Nat) (h h' : mH) : Prop := (∀ b k, ¬ (b = t + 1 ∧ k = 6) → b ≠ t + 4 → b ≠ t + 5 → b ≠ t + 6 → mgi h' b k = mgi h b k) ∧ ∀ b k, b ≠ t + 4 → mgl h' b k = mgl h b k
theorem settle_eq {N t : Nat} {s : Sh} {h : mH} (hN : 400 < N) (w : WS s) (hp : PB s) (cs : CS h (t + 1) s) (al : mgl h (t + 4) 7 = -9 ∨ ∃ s0, WS s0 ∧ AL h (t + 4) s0) : ∃ h', x_X2_settle N t h = some h' ∧ CS h' (t + 1) (stl s) ∧ AL h' (t + 4) (stl s) ∧ frS t h h' ∧ (mgi h' (t + 4) 4 = mgi h (t + 4) 4 + 1 ∨ (mgi h' (t + 4) 4 = mgi h (t + 4) 4 ∧ ∀ s0, WS s0 → AL h (t + 4) s0 → eqS s s0 ∧ ans s = ans s0)) := by
  obtain ⟨h1, e1, a1, f1, d1⟩ := lf_eq hN (by omega : t + 4 = t + 1 + 3) w cs al
  have cs1 : CS h1 (t + 1) s := cs.congr (fun k => f1.1 _ k (by omega) (by omega) (by omega)) (fun k => f1.1 _ k (by omega) (by omega) (by omega)) (fun k => f1.1 _ k (by omega) (by omega) (by omega))
  have d1' : mgi h1 (t + 4) 4 = mgi h (t + 4) 4 + 1 ∨ (mgi h1 (t + 4) 4 = mgi h (t + 4) 4 ∧ ∀ s0, WS s0 → AL h (t + 4) s0 → eqS s s0 ∧ ans s = ans s0) := by
    rcases d1 with q | ⟨q1, q2⟩
    · exact Or.inl q
    · exact Or.inr ⟨by rw [q1], q2⟩
  have fS : frS t h h1 := ⟨fun b k _ h2 h3 h4 => f1.1 b k h2 h3 h4, fun b k h2 => f1.2 b k h2⟩
  have l310 := ans_310 w
  unfold x_X2_settle
  rw [e1]
  simp only [Option.bind_some]
  have pl : mgi h1 (t + 1) 6 = plC s := cs1.2.2.2.2.2.2
  have num : x_X1_numberOf N (t + 4) (mgi h1 (t + 1) 6) h1 = some (match s.2 with | none => -9 | some q => nm (ans s) q) := by
    rw [pl]
    unfold plC
    cases hs : s.2 with
    | none => exact no_none hN w a1
    | some q => exact no_ans hN w a1 (hp q hs)
  rw [num]
  simp only [Option.bind_some]
  have stay : (match s.2 with | none => (-9 : Int32) | some q => nm (ans s) q) ≠ -9 → stl s = s := by
    intro e
    unfold stl
    cases hs : s.2 with
    | none => rw [hs] at e; exact absurd rfl e
    | some q =>
      rw [hs] at e
      have : q ∈ ans s := Classical.byContradiction fun c => e ((nm_9 _ _ (by omega)).mpr c)
      simp only [if_pos this]
      rw [← hs]
  have move : (match s.2 with | none => (-9 : Int32) | some q => nm (ans s) q) = -9 → stl s = (s.1, (ans s).head?) := by
    intro e
    unfold stl
    cases hs : s.2 with
    | none => rfl
    | some q =>
      rw [hs] at e
      simp only [if_neg ((nm_9 _ _ (by omega)).mp e)]
  by_cases c : (match s.2 with | none => (-9 : Int32) | some q => nm (ans s) q) = -9
  · rw [if_neg (fun q => q c), move c]
    simp only [mlet_eq]
    refine ⟨_, rfl, ?_, ?_, ?_, ?_⟩
    · obtain ⟨x0, x1, x2, x3, x4, x5, x6⟩ := cs1
      refine ⟨?_, ?_, fun r hr => ?_, fun r hr => ?_, ?_, ?_, ?_⟩
      · rw [mgi_msi, if_neg (by omega)]; exact x0
      · rw [mgi_msi, if_neg (by omega)]; exact x1
      · rw [mgi_msi, if_neg (by omega)]; exact x2 r hr
      · rw [mgi_msi, if_neg (by omega)]; exact x3 r hr
      · rw [mgi_msi, if_neg (by omega)]; exact x4
      · rw [mgi_msi, if_neg (by omega)]; exact x5
      · rw [mgi_msi, if_pos ⟨rfl, rfl⟩, a1.2.2.1]
        unfold plC
        show _ = match (ans s).head? with | none => -1 | some q => nI (q * 2 ^ (20 - sN s))
        cases hA : ans s with
        | nil => rw [if_pos (by rw [List.length_nil, nI_0]; decide)]; rfl
        | cons x l =>
          rw [if_neg (nI_nle (by simp) (by rw [hA] at l310; omega)), a1.2.2.2.1 0 (by rw [hA]; simp), hA]
          rfl
    · show AL _ (t + 4) s
      exact AL.congr (h := h1) (fun k => by rw [mgi_msi, if_neg (by omega)]) (fun k => by rw [mgi_msi, if_neg (by omega)]) (fun k => by rw [mgi_msi, if_neg (by omega)]) (fun k => rfl) a1
    · exact ⟨fun b k h1 h2 h3 h4 => by rw [mgi_msi, if_neg h1]; exact fS.1 b k h1 h2 h3 h4, fS.2⟩
    · rw [mgi_msi, if_neg (by omega)]
      exact d1'
  · rw [if_pos c, stay c]
    exact ⟨h1, rfl, cs1, a1, fS, d1'⟩
