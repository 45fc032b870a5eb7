/-! the model: place, settle, copies -/
theorem nm_step {l : List Nat} (hs : l.Pairwise (· < ·)) {q k : Nat} (hk : k < l.length) : nm (l.take (k + 1)) q = if l.getD k 0 = q then nI k else nm (l.take k) q := by
  have e : l.take (k + 1) = l.take k ++ [l.getD k 0] := by
    rw [List.take_add_one, List.getElem?_eq_getElem hk]
    simp [List.getD, hk]
  unfold nm
  rw [e, List.idxOf_append]
  by_cases c : l.getD k 0 = q
  · have nin : ¬ q ∈ l.take k := by
      intro hm
      rw [List.mem_take_iff_getElem] at hm
      obtain ⟨i, hi, e2⟩ := hm
      have hi' : i < l.length := by omega
      have := getD_lt hs (i := i) (j := k) (by omega) hk
      rw [c, ← e2] at this
      simp [List.getD, hi'] at this
    rw [if_pos c, if_pos (List.mem_append.mpr (Or.inr (List.mem_singleton.mpr c.symm))), if_neg nin, c]
    simp
    congr 1
    omega
  · rw [if_neg c]
    have : (q ∈ l.take k ++ [l.getD k 0]) ↔ q ∈ l.take k := by
      rw [List.mem_append, List.mem_singleton]
      exact ⟨fun h => h.elim id (fun e => absurd e.symm c), Or.inl⟩
    by_cases d : q ∈ l.take k
    · rw [if_pos (this.mpr d), if_pos d, if_pos d]
    · rw [if_neg (fun z => d (this.mp z)), if_neg d]
theorem place_eq {N q : Nat} {l : List Nat} {h : mH} (hN : 400 < N) (ls : LsA h l) (hs : l.Pairwise (· < ·)) (hl : l.length ≤ 310) (h20 : ∀ x, x ∈ l → x < 2 ^ 20) (hq : q < 2 ^ 20) : x_X9_place N (nI q) h = some (nm l q) := by
  unfold x_X9_place
  have e0 : (-9 : Int32) = nm (l.take 0) q := by simp [nm]
  rw [e0]
  refine lpV (fun f (x : Int32) i => x_X9_place_5 N (nI q) h f x i) (fun k => nm (l.take k) q) l.length _ (fun f k hk => ?_) (fun f => ?_) (by omega)
  · show x_X9_place_5 N (nI q) h (f + 1) _ (nI k) = x_X9_place_5 N (nI q) h f _ (nI (k + 1))
    have := h20 _ (getD_mem hk)
    rw [x_X9_place_5_s, ls.1, if_neg (nI_ge hk (by omega)), mck_ok (vp_in_nI (by omega) (by decide)), nI_clamp (by omega), ls.2 k hk, mlet_eq, nI_1, nm_step hs hk]
    congr 1
    by_cases c : l.getD k 0 = q
    · rw [if_pos c, if_neg (fun z => z (by rw [c]))]
    · rw [if_neg c, if_pos (fun z => c ((nI_eq (by omega) (by omega)).mp z))]
  · show x_X9_place_5 N (nI q) h (f + 1) _ (nI l.length) = _
    rw [x_X9_place_5_s, ls.1, if_pos (nI_le (Nat.le_refl _) (by omega)), List.take_length]
theorem pw20 {s : Sh} (w : WS s) {q : Nat} (h : q < 2 ^ sN s) : q < 2 ^ 20 := Nat.lt_of_lt_of_le h (Nat.pow_le_pow_right (by decide) w.n20.2)
theorem nI_n9 {q : Nat} (h : q < 2 ^ 31) : ¬ nI q = -9 := by
  intro e
  have := congrArg Int32.toInt e
  rw [nI_toInt h, show (-9 : Int32).toInt = -9 by decide] at this
  omega
def frT (p : Nat) (h h' : mH) : Prop := (∀ a k, a ≠ 92 → a ≠ 93 → a ≠ 94 → ¬ (a = 82 ∧ k = 17) → ¬ (a = p ∧ k = 31) → mgi h' a k = mgi h a k) ∧ ∀ a k, mgl h' a k = mgl h a k
theorem MS.plane {h : mH} {p o : Nat} {s : Sh} {q : Option Nat} (w : WS s) (m : MS h p o s) : MS (msi h p (o + 31) (plM (s.1, q))) p o (s.1, q) := by
  obtain ⟨a, b, c, d, e, f⟩ := m
  have h4 := w.2.1
  have w5 := w.2.2.2.1
  have n20 := w.n20
  refine ⟨?_, ?_, fun r hr => ?_, fun r hr => ?_, fun k hk => ?_, ?_⟩
  · rw [mgi_msi, if_neg (by omega)]; exact a
  · rw [mgi_msi, if_neg (by omega)]; exact b
  · have : r < sH s := hr
    rw [mgi_msi, if_neg (by omega)]; exact c r hr
  · have : r < sW s := hr
    rw [mgi_msi, if_neg (by omega)]; exact d r hr
  · have : k < sN s := hk
    rw [mgi_msi, if_neg (by omega)]; exact e k hk
  · rw [mgi_msi, if_pos ⟨rfl, rfl⟩]
theorem msettle_eq {N p : Nat} {s : Sh} {h : mH} (hN : 400 < N) (hp : p ≠ 92 ∧ p ≠ 93 ∧ p ≠ 94 ∧ p ≠ 82) (w : WS s) (pb : PB s) (m : MS h p 0 s) : ∃ h', x_X9_settle N p h = some h' ∧ MS h' p 0 (stl s) ∧ LsA h' (ans s) ∧ frT p h h' := by
  obtain ⟨h1, e1, l1, f1⟩ := list_eq (N := N) true (by omega) hp w m
  rw [if_pos rfl] at l1
  have m1 : MS h1 p 0 s := m.congr (fun k => f1.1 p k hp.1 hp.2.1 hp.2.2.1 (by omega))
  have fT : frT p h h1 := ⟨fun a k x1 x2 x3 x4 _ => f1.1 a k x1 x2 x3 x4, f1.2⟩
  have l310 := ans_310 w
  have s28 : ∃ h', x_X9_settle_28 N p h1 = some h' ∧ MS h' p 0 (s.1, (ans s).head?) ∧ LsA h' (ans s) ∧ frT p h h' := by
    unfold x_X9_settle_28
    have ev : (if ¬ mgi h1 82 17 = 0 then mgi h1 94 0 else (-9 : Int32)) = plM (s.1, (ans s).head?) := by
      rw [l1.1]
      unfold plM
      cases hA : ans s with
      | nil => simp [nI_0]
      | cons x l =>
        have := l1.2 0 (by rw [hA]; simp)
        rw [if_pos (nI_ne0 (by simp) (by rw [hA] at l310; omega)), this, hA]
        rfl
    rw [ev]
    refine ⟨_, rfl, m1.plane w, ?_, fun a k x1 x2 x3 x4 x5 => ?_, fT.2⟩
    · refine ⟨by rw [mgi_msi, if_neg (by omega)]; exact l1.1, fun j hj => by rw [mgi_msi, if_neg (by omega)]; exact l1.2 j hj⟩
    · rw [mgi_msi, if_neg (by omega)]
      exact fT.1 a k x1 x2 x3 x4 x5
  unfold x_X9_settle
  rw [show (1 : Int32) = b2i true from rfl, e1]
  simp only [Option.bind_some]
  have pl : mgi h1 p 31 = plM s := by have := m1.2.2.2.2.2; rwa [Nat.zero_add] at this
  rw [pl]
  cases hs : s.2 with
  | none =>
    rw [if_pos (by unfold plM; rw [hs])]
    have : stl s = (s.1, (ans s).head?) := by unfold stl; rw [hs]
    rw [this]
    exact s28
  | some q =>
    have hq := pw20 w (pb q hs)
    have pe : plM s = nI q := by unfold plM; rw [hs]
    rw [pe, if_neg (nI_n9 (by omega)), place_eq hN l1 (ans_sorted s) l310 (fun x hx => pw20 w (ans_lt hx)) hq]
    simp only [Option.bind_some]
    by_cases c : q ∈ ans s
    · rw [if_pos (fun z => (nm_9 _ _ (by omega)).mp z c)]
      have : stl s = s := by unfold stl; rw [hs]; simp only [if_pos c]; rw [← hs]
      rw [this]
      exact ⟨h1, rfl, m1, l1, fT⟩
    · rw [if_neg (fun z => z ((nm_9 _ _ (by omega)).mpr c))]
      have : stl s = (s.1, (ans s).head?) := by unfold stl; rw [hs]; simp only [if_neg c]
      rw [this]
      exact s28
/-- k slots are copied -/
def cpd (h x : mH) (d o c u k : Nat) : Prop := (∀ j, j < k → mgi x d (o + j) = mgi h c (u + j)) ∧ (∀ b i, ¬ (b = d ∧ o ≤ i ∧ i < o + k) → mgi x b i = mgi h b i) ∧ ∀ b i, mgl x b i = mgl h b i
theorem cpd.zero (h : mH) (d o c u : Nat) : cpd h h d o c u 0 := ⟨fun j hj => by omega, fun _ _ _ => rfl, fun _ _ => rfl⟩
theorem cpd.step {h x : mH} {d o c u k : Nat} (m : cpd h x d o c u k) (hd : c ≠ d ∨ u + k < o ∨ o + k ≤ u + k) : cpd h (msi x d (o + k) (mgi x c (u + k))) d o c u (k + 1) := by
  obtain ⟨a, b, e⟩ := m
  refine ⟨fun j hj => ?_, fun b' i hi => ?_, e⟩
  · rw [mgi_msi]
    by_cases q : j = k
    · subst q
      rw [if_pos ⟨rfl, rfl⟩, b c (u + j) (by omega)]
    · rw [if_neg (by omega)]
      exact a j (by omega)
  · rw [mgi_msi, if_neg (by omega)]
    exact b b' i (by omega)
theorem MS.copy {h h' : mH} {p o p' o' : Nat} {s : Sh} (w : WS s) (e : ∀ k, k < 32 → mgi h' p' (o' + k) = mgi h p (o + k)) (m : MS h p o s) : MS h' p' o' s := by
  obtain ⟨a, b, c, d, f, g⟩ := m
  have h4 := w.2.1
  have w5 := w.2.2.2.1
  have n20 := w.n20
  refine ⟨?_, ?_, fun r hr => ?_, fun r hr => ?_, fun k hk => ?_, ?_⟩
  · have := e 0 (by decide); simp only [Nat.add_zero] at this; rw [this]; exact a
  · rw [e 1 (by decide)]; exact b
  · rw [Nat.add_assoc, e (2 + r) (by omega), ← Nat.add_assoc]; exact c r hr
  · rw [Nat.add_assoc, e (6 + r) (by omega), ← Nat.add_assoc]; exact d r hr
  · rw [Nat.add_assoc, e (11 + k) (by omega), ← Nat.add_assoc]; exact f k hk
  · rw [e 31 (by decide)]; exact g
/-- the row of acts, one more -/
def addA (A : List Sh) (s : Sh) : List Sh := (if A.length < 14 then A else A.tail) ++ [s]
theorem addA_len {A : List Sh} (s : Sh) (h : A.length ≤ 14) : (addA A s).length = if A.length < 14 then A.length + 1 else 14 := by
  unfold addA
  split
  · simp
  · simp; omega
def frNt (h h' : mH) : Prop := (∀ a k, a ≠ 87 → ¬ (a = 82 ∧ k = 7) → mgi h' a k = mgi h a k) ∧ ∀ a k, mgl h' a k = mgl h a k
theorem note49 {N n : Nat} {h : mH} (hN : 40 < N) (hn : n < 14) (e : mgi h 82 7 = nI n) : ∃ h', x_X9_note_49 N h = some h' ∧ mgi h' 82 7 = nI (n + 1) ∧ (∀ j, j < 32 → mgi h' 87 (32 * n + j) = mgi h 85 j) ∧ (∀ a k, ¬ (a = 87 ∧ 32 * n ≤ k ∧ k < 32 * n + 32) → ¬ (a = 82 ∧ k = 7) → mgi h' a k = mgi h a k) ∧ ∀ a k, mgl h' a k = mgl h a k := by
  unfold x_X9_note_49
  refine lpI (fun f (x : mH) i => x_X9_note_51 N f i x) (fun k x => cpd h x 87 (32 * n) 85 0 k) (fun o => ∃ h', o = some h' ∧ mgi h' 82 7 = nI (n + 1) ∧ (∀ j, j < 32 → mgi h' 87 (32 * n + j) = mgi h 85 j) ∧ (∀ a k, ¬ (a = 87 ∧ 32 * n ≤ k ∧ k < 32 * n + 32) → ¬ (a = 82 ∧ k = 7) → mgi h' a k = mgi h a k) ∧ ∀ a k, mgl h' a k = mgl h a k) 32 (fun f k x hk p => Or.inl ?_) (fun f x p => ?_) N 0 h (by omega) (by omega) (cpd.zero _ _ _ _ _)
  · show ∃ a', x_X9_note_51 N (f + 1) (nI k) x = x_X9_note_51 N f (nI (k + 1)) a' ∧ _
    have e2 : mgi x 82 7 = nI n := by rw [p.2.1 82 7 (by omega)]; exact e
    rw [x_X9_note_51_s, if_neg (show ¬ (32 : Int32) ≤ nI k from nI_ge (b := 32) hk (by decide)), mck_ok (vp_in_nI hk (by decide)), e2, show (32 : Int32) = nI 32 from rfl, pk_mul, nI_add, mck_ok (vp_in_nI (by omega) (by decide)), nI_clamp (by omega), nI_clamp (by omega), mlet_eq, nI_1]
    refine ⟨_, rfl, ?_⟩
    have := p.step (Or.inl (by decide))
    rwa [Nat.zero_add] at this
  · show ∃ h', x_X9_note_51 N (f + 1) (nI 32) x = some h' ∧ _
    have e2 : mgi x 82 7 = nI n := by rw [p.2.1 82 7 (by omega)]; exact e
    rw [x_X9_note_51_s, if_pos (show (32 : Int32) ≤ nI 32 by decide), mlet_eq, e2, nI_1]
    refine ⟨_, rfl, by simp [mgi_msi], fun j hj => ?_, fun a k h1 h2 => ?_, fun a k => p.2.2 a k⟩
    · rw [mgi_msi, if_neg (by omega), p.1 j hj, Nat.zero_add]
    · rw [mgi_msi, if_neg h2]
      exact p.2.1 a k h1
theorem note_eq {N : Nat} {h : mH} {A : List Sh} {s : Sh} (hN : 440 < N) (hA : A.length ≤ 14) (e : mgi h 82 7 = nI A.length) (b : ∀ j s, A[j]? = some s → MS h 87 (32 * j) s) (wA : ∀ s ∈ A, WS s) (m : MS h 85 0 s) (w : WS s) : ∃ h', x_X9_note N h = some h' ∧ mgi h' 82 7 = nI (addA A s).length ∧ (∀ j s', (addA A s)[j]? = some s' → MS h' 87 (32 * j) s') ∧ frNt h h' := by
  unfold x_X9_note
  by_cases c : A.length < 14
  · rw [if_pos (by rw [e]; exact fun z => by rw [show (14 : Int32) = nI 14 from rfl, nI_eq (by omega) (by decide)] at z; omega)]
    obtain ⟨h', e1, e2, e3, e4, e5⟩ := note49 (N := N) (by omega) c e
    refine ⟨h', e1, by rw [addA_len s hA, if_pos c]; exact e2, fun j s' hj => ?_, fun a k h1 h2 => e4 a k (by omega) h2, e5⟩
    unfold addA at hj
    rw [if_pos c, List.getElem?_append] at hj
    by_cases q : j < A.length
    · rw [if_pos q] at hj
      exact (b j s' hj).copy (wA s' (List.mem_of_getElem? hj)) (fun k hk => e4 87 _ (by omega) (by omega))
    · rw [if_neg q] at hj
      have : j = A.length := by
        refine Classical.byContradiction fun ne => ?_
        rw [List.getElem?_eq_none (by simp; omega)] at hj
        cases hj
      subst this
      simp at hj
      subst hj
      exact m.copy w (fun k hk => by rw [e3 k hk, Nat.zero_add])
  · have h14 : A.length = 14 := by omega
    rw [if_neg (by rw [e, h14]; exact fun z => z rfl)]
    refine lpI (fun f (x : mH) i => x_X9_note_11 N f i x) (fun k x => cpd h x 87 0 87 32 k) (fun o => ∃ h', o = some h' ∧ mgi h' 82 7 = nI (addA A s).length ∧ (∀ j s', (addA A s)[j]? = some s' → MS h' 87 (32 * j) s') ∧ frNt h h') 416 (fun f k x hk p => Or.inl ?_) (fun f x p => ?_) N 0 h (by omega) (by omega) (cpd.zero _ _ _ _ _)
    · show ∃ a', x_X9_note_11 N (f + 1) (nI k) x = x_X9_note_11 N f (nI (k + 1)) a' ∧ _
      rw [x_X9_note_11_s, if_neg (show ¬ (416 : Int32) ≤ nI k from nI_ge (b := 416) hk (by decide)), show (32 : Int32) = nI 32 from rfl, nI_add, mck_ok (vp_in_nI (by omega) (by decide)), mck_ok (vp_in_nI (by omega) (by decide)), nI_clamp (by omega), nI_clamp (by omega), mlet_eq, nI_1]
      refine ⟨_, rfl, ?_⟩
      have := p.step (Or.inr (Or.inr (by omega)))
      rwa [Nat.zero_add, Nat.add_comm 32 k] at this
    · show ∃ h', x_X9_note_11 N (f + 1) (nI 416) x = some h' ∧ _
      rw [x_X9_note_11_s, if_pos (show (416 : Int32) ≤ nI 416 by decide), mlet_eq, p.2.1 82 7 (by omega), e, h14, show nI 14 - 1 = nI 13 by decide]
      obtain ⟨h', e1, e2, e3, e4, e5⟩ := note49 (N := N) (n := 13) (h := msi x 82 7 (nI 13)) (by omega) (by omega) (by simp [mgi_msi])
      have f4 : ∀ a k, a ≠ 87 → ¬ (a = 82 ∧ k = 7) → mgi h' a k = mgi h a k := fun a k h1 h2 => by
        rw [e4 a k (by omega) h2, mgi_msi, if_neg h2, p.2.1 a k (by omega)]
      refine ⟨h', e1, by rw [addA_len s hA, if_neg c]; exact e2, fun j s' hj => ?_, f4, fun a k => by rw [e5]; exact p.2.2 a k⟩
      unfold addA at hj
      rw [if_neg c, List.getElem?_append] at hj
      by_cases q : j < A.tail.length
      · rw [if_pos q] at hj
        rw [List.length_tail] at q
        rw [List.getElem?_tail] at hj
        refine (b (j + 1) s' hj).copy (wA s' (List.mem_of_getElem? hj)) (fun k hk => ?_)
        rw [e4 87 _ (by omega) (by omega), mgi_msi, if_neg (by omega)]
        have := p.1 (32 * j + k) (by omega)
        rw [Nat.zero_add] at this
        rw [this]
        congr 1
        omega
      · rw [if_neg q] at hj
        rw [List.length_tail] at q hj
        have : j = 13 := by
          refine Classical.byContradiction fun ne => ?_
          rw [List.getElem?_eq_none (by simp; omega)] at hj
          cases hj
        subst this
        rw [h14] at hj
        simp at hj
        subst hj
        refine m.copy w (fun k hk => ?_)
        rw [e3 k hk, mgi_msi, if_neg (by omega), p.2.1 85 k (by omega), Nat.zero_add]
theorem undo27 {N n : Nat} {h : mH} (hN : 40 < N) (hn : n < 14) (e : mgi h 82 7 = nI n) : ∃ h', x_X9_undo_27 N N 0 h = some (nI n, h') ∧ (∀ j, j < 32 → mgi h' 85 j = mgi h 87 (32 * n + j)) ∧ (∀ a k, a ≠ 85 → mgi h' a k = mgi h a k) ∧ ∀ a k, mgl h' a k = mgl h a k := by
  refine lpI (fun f (x : mH) i => x_X9_undo_27 N f i x) (fun k x => cpd h x 85 0 87 (32 * n) k) (fun o => ∃ h', o = some (nI n, h') ∧ (∀ j, j < 32 → mgi h' 85 j = mgi h 87 (32 * n + j)) ∧ (∀ a k, a ≠ 85 → mgi h' a k = mgi h a k) ∧ ∀ a k, mgl h' a k = mgl h a k) 32 (fun f k x hk p => Or.inl ?_) (fun f x p => ?_) N 0 h (by omega) (by omega) (cpd.zero _ _ _ _ _)
  · show ∃ a', x_X9_undo_27 N (f + 1) (nI k) x = x_X9_undo_27 N f (nI (k + 1)) a' ∧ _
    have e2 : mgi x 82 7 = nI n := by rw [p.2.1 82 7 (by omega)]; exact e
    rw [x_X9_undo_27_s, if_neg (show ¬ (32 : Int32) ≤ nI k from nI_ge (b := 32) hk (by decide)), e2, show (32 : Int32) = nI 32 from rfl, pk_mul, nI_add, mck_ok (vp_in_nI (by omega) (by decide)), mck_ok (vp_in_nI (by omega) (by decide)), nI_clamp (by omega), nI_clamp (by omega), mlet_eq, nI_1]
    refine ⟨_, rfl, ?_⟩
    have := p.step (Or.inl (by decide))
    rwa [Nat.zero_add] at this
  · show ∃ h', x_X9_undo_27 N (f + 1) (nI 32) x = some (nI n, h') ∧ _
    have e2 : mgi x 82 7 = nI n := by rw [p.2.1 82 7 (by omega)]; exact e
    rw [x_X9_undo_27_s, if_pos (show (32 : Int32) ≤ nI 32 by decide), e2]
    refine ⟨x, rfl, fun j hj => ?_, fun a k h1 => p.2.1 a k (by omega), p.2.2⟩
    have := p.1 j hj
    rwa [Nat.zero_add] at this
theorem keep26 {N n : Nat} {h : mH} {s : Sh} (hN : 40 < N) (hn : n < 2) (m : MS h 85 0 s) : ∃ h', x_X9_keep_26 N (nI n) N 0 h = some (nI (sN s), h') ∧ (∀ j, j < 32 → mgi h' 88 (32 * n + j) = mgi h 85 j) ∧ (∀ a k, ¬ (a = 88 ∧ 32 * n ≤ k ∧ k < 32 * n + 32) → mgi h' a k = mgi h a k) ∧ ∀ a k, mgl h' a k = mgl h a k := by
  refine lpI (fun f (x : mH) i => x_X9_keep_26 N (nI n) f i x) (fun k x => cpd h x 88 (32 * n) 85 0 k) (fun o => ∃ h', o = some (nI (sN s), h') ∧ (∀ j, j < 32 → mgi h' 88 (32 * n + j) = mgi h 85 j) ∧ (∀ a k, ¬ (a = 88 ∧ 32 * n ≤ k ∧ k < 32 * n + 32) → mgi h' a k = mgi h a k) ∧ ∀ a k, mgl h' a k = mgl h a k) 32 (fun f k x hk p => Or.inl ?_) (fun f x p => ?_) N 0 h (by omega) (by omega) (cpd.zero _ _ _ _ _)
  · show ∃ a', x_X9_keep_26 N (nI n) (f + 1) (nI k) x = x_X9_keep_26 N (nI n) f (nI (k + 1)) a' ∧ _
    rw [x_X9_keep_26_s, if_neg (show ¬ (32 : Int32) ≤ nI k from nI_ge (b := 32) hk (by decide)), show (32 : Int32) = nI 32 from rfl, pk_mul, nI_add, mck_ok (vp_in_nI (by omega) (by decide)), mck_ok (vp_in_nI (by omega) (by decide)), nI_clamp (by omega), nI_clamp (by omega), mlet_eq, nI_1]
    refine ⟨_, rfl, ?_⟩
    have := p.step (Or.inl (by decide))
    rwa [Nat.zero_add] at this
  · show ∃ h', x_X9_keep_26 N (nI n) (f + 1) (nI 32) x = some (nI (sN s), h') ∧ _
    rw [x_X9_keep_26_s, if_pos (show (32 : Int32) ≤ nI 32 by decide), cells_eq (m.congr (fun k => p.2.1 85 k (by omega)))]
    refine ⟨x, rfl, fun j hj => ?_, fun a k h1 => p.2.1 a k h1, p.2.2⟩
    have := p.1 j hj
    rwa [Nat.zero_add] at this
theorem again31 {N n : Nat} {h : mH} {s : Sh} (hN : 40 < N) (hn : n < 2) (w : WS s) (m : MS h 88 (32 * n) s) : ∃ h', x_X9_again_31 N (nI n) N 0 h = some (nI (sN s), h') ∧ MS h' 85 0 s ∧ mgi h' 82 7 = 0 ∧ (∀ a k, a ≠ 85 → ¬ (a = 82 ∧ k = 7) → mgi h' a k = mgi h a k) ∧ ∀ a k, mgl h' a k = mgl h a k := by
  refine lpI (fun f (x : mH) i => x_X9_again_31 N (nI n) f i x) (fun k x => cpd h x 85 0 88 (32 * n) k) (fun o => ∃ h', o = some (nI (sN s), h') ∧ MS h' 85 0 s ∧ mgi h' 82 7 = 0 ∧ (∀ a k, a ≠ 85 → ¬ (a = 82 ∧ k = 7) → mgi h' a k = mgi h a k) ∧ ∀ a k, mgl h' a k = mgl h a k) 32 (fun f k x hk p => Or.inl ?_) (fun f x p => ?_) N 0 h (by omega) (by omega) (cpd.zero _ _ _ _ _)
  · show ∃ a', x_X9_again_31 N (nI n) (f + 1) (nI k) x = x_X9_again_31 N (nI n) f (nI (k + 1)) a' ∧ _
    rw [x_X9_again_31_s, if_neg (show ¬ (32 : Int32) ≤ nI k from nI_ge (b := 32) hk (by decide)), show (32 : Int32) = nI 32 from rfl, pk_mul, nI_add, mck_ok (vp_in_nI (by omega) (by decide)), mck_ok (vp_in_nI (by omega) (by decide)), nI_clamp (by omega), nI_clamp (by omega), mlet_eq, nI_1]
    refine ⟨_, rfl, ?_⟩
    have := p.step (Or.inl (by decide))
    rwa [Nat.zero_add] at this
  · show ∃ h', x_X9_again_31 N (nI n) (f + 1) (nI 32) x = some (nI (sN s), h') ∧ _
    have m2 : MS (msi x 82 7 0) 85 0 s := m.copy w (fun k hk => by
      rw [mgi_msi, if_neg (by omega)]
      exact p.1 k hk)
    rw [x_X9_again_31_s, if_pos (show (32 : Int32) ≤ nI 32 by decide), mlet_eq, cells_eq m2]
    refine ⟨_, rfl, m2, by simp [mgi_msi], fun a k h1 h2 => ?_, p.2.2⟩
    rw [mgi_msi, if_neg h2, p.2.1 a k (by omega)]
