/-! the class's list, row by row -/
def K5 (lk : Nat → Nat) (j : Nat) : Nat := P5 fun c => (lk c).testBit j
def rw5 (t : Nat) : List Nat := (List.range 32).filter (fun m => bc m 5 == t)
def gok (lk : Nat → Nat) (left m : Nat) : Bool := (List.range 5).all fun c => (lk c != left || m.testBit (4 - c)) && (lk c != 0 || !m.testBit (4 - c))
def lkN (lk : Nat → Nat) (m : Nat) : Nat → Nat := fun c => lk c - bitN m (4 - c)
def Gc (s : Sh) : Nat → Nat → (Nat → Nat) → List Nat
  | 0, made, _ => [made]
  | j + 1, made, lk => (rw5 (sR s (sH s - (j + 1)))).flatMap fun m => if gok lk (j + 1) m then Gc s j (made ||| m * 2 ^ (15 - sW s * (sH s - (j + 1)))) (lkN lk m) else []
theorem gok_iff (lk : Nat → Nat) (left m : Nat) : gok lk left m = true ↔ ∀ c, c < 5 → (lk c = left → m.testBit (4 - c) = true) ∧ (m.testBit (4 - c) = true → lk c ≠ 0) := by
  unfold gok
  rw [List.all_eq_true]
  simp only [List.mem_range]
  refine ⟨fun h c hc => ?_, fun h c hc => ?_⟩
  · have := h c hc
    rw [Bool.and_eq_true, Bool.or_eq_true, Bool.or_eq_true] at this
    simp at this
    refine ⟨fun e => ?_, fun e z => ?_⟩
    · rcases this.1 with q | q
      · exact absurd e q
      · exact q
    · rcases this.2 with q | q
      · exact q z
      · rw [e] at q; cases q
  · obtain ⟨a, b⟩ := h c hc
    rw [Bool.and_eq_true, Bool.or_eq_true, Bool.or_eq_true]
    constructor
    · by_cases e : lk c = left
      · exact Or.inr (a e)
      · exact Or.inl (by simp [e])
    · by_cases e : m.testBit (4 - c) = true
      · exact Or.inl (by simp [b e])
      · exact Or.inr (by simp [e])
theorem bt_neg (x : Int32) {i : Nat} (hi : i < 32) : bt (x ^^^ (-1)) i = !bt x i := by rw [b_xor, b_m1 i hi]; simp
theorem bt_sel (left j : Nat) (hj : j < 31) (x : Int32) {i : Nat} (hi : i < 32) : bt (if (nI left &&& nI (2 ^ j)) = 0 then x ^^^ (-1) else x) i = (bt x i == left.testBit j) := by
  by_cases c : left.testBit j
  · rw [if_neg (fun q => by rw [fa_bit hj, c] at q; cases q), c]
    simp
  · have c' : left.testBit j = false := by simpa using c
    rw [if_pos ((fa_bit hj).mpr c'), bt_neg _ hi, c']
    simp
theorem and_eq_iff (x y : Int32) : x &&& y = y ↔ ∀ i, i < 32 → bt y i = true → bt x i = true := by
  constructor
  · intro e i hi hy
    rw [← e, b_and] at hy
    exact (Bool.and_eq_true _ _ ▸ hy).1
  · intro e
    refine b_ext fun i hi => ?_
    rw [b_and]
    have := e i hi
    cases h : bt y i <;> simp_all
theorem and_z_iff (x y : Int32) : x &&& (y ^^^ (-1)) = 0 ↔ ∀ i, i < 32 → bt x i = true → bt y i = true := by
  constructor
  · intro e i hi hx
    have := congrArg (fun z => bt z i) e
    simp only [b_and, bt_neg _ hi, b_0, hx] at this
    simpa using this
  · intro e
    refine b_ext fun i hi => ?_
    rw [b_and, bt_neg _ hi, b_0]
    have := e i hi
    cases h : bt x i <;> simp_all
theorem dig3 : ∀ v, v < 8 → ∀ l, l < 8 → (((v.testBit 0 == l.testBit 0) && (v.testBit 1 == l.testBit 1)) && (v.testBit 2 == l.testBit 2)) = decide (v = l) := by decide +kernel
theorem dig3z : ∀ l, l < 8 → (((false == l.testBit 0) && (false == l.testBit 1)) && (false == l.testBit 2)) = decide (0 = l) := by decide +kernel
theorem bt_K5 (lk : Nat → Nat) (j : Nat) {i : Nat} (hi : i < 32) : bt (nI (K5 lk j)) i = (decide (i < 5) && (lk (4 - i)).testBit j) := by
  rw [bt_nI _ _ hi]
  exact P5_bit _ i
def mustI (lk : Nat → Nat) (left : Nat) : Int32 := ((if (nI left &&& (1 : Int32)) = 0 then (nI (K5 lk 0) ^^^ (-1 : Int32)) else nI (K5 lk 0)) &&& (if (nI left &&& (2 : Int32)) = 0 then (nI (K5 lk 1) ^^^ (-1 : Int32)) else nI (K5 lk 1))) &&& (if (nI left &&& (4 : Int32)) = 0 then (nI (K5 lk 2) ^^^ (-1 : Int32)) else nI (K5 lk 2))
def mayI (lk : Nat → Nat) : Int32 := (nI (K5 lk 0) ||| nI (K5 lk 1)) ||| nI (K5 lk 2)
theorem bt_must {lk : Nat → Nat} {left : Nat} (h8 : ∀ c, c < 5 → lk c < 8) (h1 : 1 ≤ left) (hl : left < 8) {i : Nat} (hi : i < 32) : bt (mustI lk left) i = (decide (i < 5) && decide (lk (4 - i) = left)) := by
  unfold mustI
  rw [b_and, b_and]
  refine (congr (congrArg and (congr (congrArg and (bt_sel left 0 (by decide) (nI (K5 lk 0)) hi)) (bt_sel left 1 (by decide) (nI (K5 lk 1)) hi))) (bt_sel left 2 (by decide) (nI (K5 lk 2)) hi)).trans ?_
  rw [bt_K5 _ _ hi, bt_K5 _ _ hi, bt_K5 _ _ hi]
  by_cases c : i < 5
  · simp only [c, decide_true, Bool.true_and]
    exact dig3 _ (h8 _ (by omega)) _ hl
  · simp only [c, decide_false, Bool.false_and]
    rw [dig3z left hl]
    simp; omega
theorem dig3o : ∀ v, v < 8 → ((v.testBit 0 || v.testBit 1) || v.testBit 2) = decide (v ≠ 0) := by decide +kernel
theorem bt_may {lk : Nat → Nat} (h8 : ∀ c, c < 5 → lk c < 8) {i : Nat} (hi : i < 32) : bt (mayI lk) i = (decide (i < 5) && decide (lk (4 - i) ≠ 0)) := by
  unfold mayI
  rw [b_or, b_or, bt_K5 _ _ hi, bt_K5 _ _ hi, bt_K5 _ _ hi]
  by_cases c : i < 5
  · simp only [c, decide_true, Bool.true_and]
    exact dig3o _ (h8 _ (by omega))
  · simp only [c, decide_false, Bool.false_and, Bool.or_false]
theorem gok_eq {lk : Nat → Nat} {left m : Nat} (h8 : ∀ c, c < 5 → lk c < 8) (h1 : 1 ≤ left) (hl : left < 8) (hm : m < 32) : ((nI m &&& mustI lk left) = mustI lk left ∧ (nI m &&& (mayI lk ^^^ (-1))) = 0) ↔ gok lk left m = true := by
  rw [and_eq_iff, and_z_iff, gok_iff]
  have hb : ∀ i, 5 ≤ i → m.testBit i = false := fun i hi => Nat.testBit_lt_two_pow (Nat.lt_of_lt_of_le hm (Nat.pow_le_pow_right (n := 2) (by decide) hi))
  constructor
  · intro ⟨a, b⟩ c hc
    have a' := a (4 - c) (by omega)
    have b' := b (4 - c) (by omega)
    rw [bt_must h8 h1 hl (by omega), bt_nI _ _ (by omega), show 4 - (4 - c) = c by omega] at a'
    rw [bt_may h8 (by omega), bt_nI _ _ (by omega), show 4 - (4 - c) = c by omega] at b'
    have q : 4 - c < 5 := by omega
    simp only [q, decide_true, Bool.true_and, decide_eq_true_eq] at a' b'
    exact ⟨a', b'⟩
  · intro e
    constructor
    · intro i hi q
      rw [bt_must h8 h1 hl hi, Bool.and_eq_true, decide_eq_true_eq, decide_eq_true_eq] at q
      have := (e (4 - i) (by omega)).1 q.2
      rw [show 4 - (4 - i) = i by omega] at this
      rw [bt_nI _ _ hi]; exact this
    · intro i hi q
      rw [bt_nI _ _ hi] at q
      by_cases c : i < 5
      · have := (e (4 - i) (by omega)).2 (by rw [show 4 - (4 - i) = i by omega]; exact q)
        rw [bt_may h8 hi]
        simp only [c, decide_true, Bool.true_and, decide_eq_true_eq]
        exact this
      · rw [hb i (by omega)] at q; cases q
theorem dn0 : ∀ v, v < 8 → ∀ b : Bool, (b = true → v ≠ 0) → (v.testBit 0 ^^ b) = (v - (if b then 1 else 0)).testBit 0 := by decide +kernel
theorem dn1 : ∀ v, v < 8 → ∀ b : Bool, (b = true → v ≠ 0) → (v.testBit 1 ^^ (b && !v.testBit 0)) = (v - (if b then 1 else 0)).testBit 1 := by decide +kernel
theorem dn2 : ∀ v, v < 8 → ∀ b : Bool, (b = true → v ≠ 0) → (v.testBit 2 ^^ ((b && !v.testBit 0) && !v.testBit 1)) = (v - (if b then 1 else 0)).testBit 2 := by decide +kernel
theorem next_eq {lk : Nat → Nat} {left m : Nat} (h8 : ∀ c, c < 5 → lk c < 8) (hm : m < 32) (hg : gok lk left m = true) : nI (K5 lk 0) ^^^ nI m = nI (K5 (lkN lk m) 0) ∧ nI (K5 lk 1) ^^^ (nI m &&& (nI (K5 lk 0) ^^^ (-1))) = nI (K5 (lkN lk m) 1) ∧ nI (K5 lk 2) ^^^ ((nI m &&& (nI (K5 lk 0) ^^^ (-1))) &&& (nI (K5 lk 1) ^^^ (-1))) = nI (K5 (lkN lk m) 2) := by
  have hb : ∀ i, 5 ≤ i → m.testBit i = false := fun i hi => Nat.testBit_lt_two_pow (Nat.lt_of_lt_of_le hm (Nat.pow_le_pow_right (n := 2) (by decide) hi))
  have hg' := (gok_iff _ _ _).mp hg
  have Z : ∀ i, i < 5 → m.testBit i = true → lk (4 - i) ≠ 0 := fun i hi q => (hg' (4 - i) (by omega)).2 (by rw [show 4 - (4 - i) = i by omega]; exact q)
  have L : ∀ i, i < 5 → lkN lk m (4 - i) = lk (4 - i) - (if m.testBit i then 1 else 0) := fun i hi => by
    unfold lkN bitN
    rw [show 4 - (4 - i) = i by omega]
  refine ⟨b_ext fun i hi => ?_, b_ext fun i hi => ?_, b_ext fun i hi => ?_⟩
  · rw [b_xor, bt_K5 _ _ hi, bt_K5 _ _ hi, bt_nI _ _ hi]
    by_cases c : i < 5
    · simp only [c, decide_true, Bool.true_and]
      rw [L i c]
      exact dn0 _ (h8 _ (by omega)) _ (Z i c)
    · simp [c, hb i (by omega)]
  · rw [b_xor, b_and, bt_neg _ hi, bt_K5 _ _ hi, bt_K5 _ _ hi, bt_K5 _ _ hi, bt_nI _ _ hi]
    by_cases c : i < 5
    · simp only [c, decide_true, Bool.true_and]
      rw [L i c]
      exact dn1 _ (h8 _ (by omega)) _ (Z i c)
    · simp [c, hb i (by omega)]
  · rw [b_xor, b_and, b_and, bt_neg _ hi, bt_neg _ hi, bt_K5 _ _ hi, bt_K5 _ _ hi, bt_K5 _ _ hi, bt_K5 _ _ hi, bt_nI _ _ hi]
    by_cases c : i < 5
    · simp only [c, decide_true, Bool.true_and]
      rw [L i c]
      exact dn2 _ (h8 _ (by omega)) _ (Z i c)
    · simp [c, hb i (by omega)]
def fst5 (t : Nat) : Nat := [0, 1, 6, 16, 26, 31, 32].getD t 0
theorem fst_eq : ∀ t, t < 7 → mFirst t = nI (fst5 t) := by decide +kernel
theorem rw5_len : ∀ t, t < 6 → (rw5 t).length + fst5 t = fst5 (t + 1) := by decide +kernel
theorem rw5_at : ∀ t, t < 6 → ∀ k, k < (rw5 t).length → mRows (fst5 t + k) = nI ((rw5 t).getD k 0) := by decide +kernel
theorem fst_32 : ∀ t, t < 7 → fst5 t ≤ 32 := by decide +kernel
theorem rw5_lt {t m : Nat} (h : m ∈ rw5 t) : m < 32 := by
  unfold rw5 at h
  rw [List.mem_filter, List.mem_range] at h
  exact h.1
def frU (a : Nat) (h h' : mH) : Prop := (∀ b k, b ≠ a + 1 → ¬ (b = a ∧ k = 1) → mgi h' b k = mgi h b k) ∧ ∀ b k, mgl h' b k = mgl h b k
theorem frU.refl {a : Nat} {h : mH} : frU a h h := ⟨fun _ _ _ _ => rfl, fun _ _ => rfl⟩
theorem frU.trans {a : Nat} {h h1 h2 : mH} (x : frU a h h1) (y : frU a h1 h2) : frU a h h2 := ⟨fun c k u v => (y.1 c k u v).trans (x.1 c k u v), fun c k => (y.2 c k).trans (x.2 c k)⟩
def UL (h : mH) (a : Nat) (L : List Nat) : Prop := mgi h a 1 = nI L.length ∧ ∀ k, k < L.length → mgi h (a + 1) k = nI (L.getD k 0)
theorem frU.cs {a b : Nat} {h h' : mH} {s : Sh} (hab : a = b + 3) (f : frU a h h') (m : CS h b s) : CS h' b s := m.congr (fun k => f.1 b k (by omega) (by omega)) (fun k => f.1 _ k (by omega) (by omega)) (fun k => f.1 _ k (by omega) (by omega))
theorem getD_appN {l : List Nat} {p : Nat} {k : Nat} (hk : k < (l ++ [p]).length) : (l ++ [p]).getD k 0 = if k = l.length then p else l.getD k 0 := by
  rw [List.length_append] at hk
  simp only [List.length_cons, List.length_nil] at hk
  by_cases e : k = l.length
  · subst e; simp
  · rw [if_neg e]
    have : k < l.length := by omega
    simp [List.getD, List.getElem?_append_left this]
theorem au_eq {a x : Nat} {L : List Nat} {h : mH} (u : UL h a L) (hL : L.length < 310) : ∃ h', x_X1_addUnpinned a (nI x) h = some h' ∧ UL h' a (L ++ [x]) ∧ frU a h h' := by
  unfold x_X1_addUnpinned
  refine ⟨msi (msi h (a + 1) L.length (nI x)) a 1 (nI (L.length + 1)), ?_, ⟨by simp [mgi_msi], fun k hk => ?_⟩, fun b k h1 h2 => ?_, fun b k => rfl⟩
  · rw [u.1, if_neg (show ¬ (310 : Int32) ≤ nI L.length from nI_ge (b := 310) hL (by decide)), mck_ok (vp_in_nI hL (by decide)), nI_clamp (by omega)]
    simp only [mlet_eq]
    rw [mgi_msi, if_neg (by omega), u.1, nI_1]
  · rw [getD_appN hk, mgi_msi, if_neg (by omega), mgi_msi]
    by_cases e : k = L.length
    · simp [e]
    · simp only [e, and_false, if_false]
      exact u.2 k (by simp at hk; omega)
  · rw [mgi_msi, if_neg (by omega), mgi_msi, if_neg (by omega)]
theorem flat_split {α β : Type} (g : α → List β) (l : List α) (k : Nat) (x : α) (hx : l[k]? = some x) : l.flatMap g = (l.take k).flatMap g ++ (g x ++ (l.drop (k + 1)).flatMap g) ∧ (l.take (k + 1)).flatMap g = (l.take k).flatMap g ++ g x := by
  have hk : k < l.length := by
    rw [List.getElem?_eq_some_iff] at hx; exact hx.1
  have e : l[k] = x := by
    rw [List.getElem?_eq_some_iff] at hx; exact hx.2
  constructor
  · have : l = l.take k ++ (x :: l.drop (k + 1)) := by
      rw [← e, ← List.drop_eq_getElem_cons hk, List.take_append_drop]
    conv => lhs; rw [this]
    rw [List.flatMap_append, List.flatMap_cons]
  · rw [List.take_add_one, hx]
    simp [List.flatMap_append]
theorem af_eq {N a b : Nat} {s : Sh} (hN : 40 < N) (hab : a = b + 3) (w : WS s) : ∀ (j dd made : Nat) (lk : Nat → Nat) (L : List Nat) (h : mH), j ≤ sH s → j < dd → (∀ c, c < 5 → lk c < 8) → CS h b s → UL h a L → L.length + (Gc s j made lk).length ≤ 310 → ∃ h', x_X1_addFrom N dd a b (nI (sH s - j)) (nI made) (nI (K5 lk 0)) (nI (K5 lk 1)) (nI (K5 lk 2)) h = some h' ∧ UL h' a (L ++ Gc s j made lk) ∧ frU a h h' := by
  have h4 := w.2.1
  have w5 := w.2.2.2.1
  intro j
  induction j with
  | zero =>
    intro dd made lk L h _ hd _ cs u hl
    obtain ⟨dd, rfl⟩ : ∃ e, dd = e + 1 := ⟨dd - 1, by omega⟩
    obtain ⟨h', e1, e2, e3⟩ := au_eq (x := made) u (by simp [Gc] at hl; omega)
    refine ⟨h', ?_, e2, e3⟩
    rw [x_X1_addFrom_s]
    unfold x_X6_hasRow
    rw [if_neg (nI_pos (by omega)), cs.1, if_pos (nI_le (by omega) (by omega))]
    simp only [Option.bind_some]
    rw [if_neg (by decide), e1]
    rfl
  | succ j ih =>
    intro dd made lk L h hj hd h8 cs u hl
    obtain ⟨dd, rfl⟩ : ∃ e, dd = e + 1 := ⟨dd - 1, by omega⟩
    have hr : sH s - (j + 1) < sH s := by omega
    have ht := w.2.2.2.2.1 _ hr
    rw [x_X1_addFrom_s]
    unfold x_X6_hasRow
    rw [if_neg (nI_pos (by omega)), cs.1, if_neg (nI_ge hr (by omega))]
    simp only [Option.bind_some]
    rw [if_pos (by decide), to_row w cs hr, Option.bind_some, if_neg (nI_pos (by omega)), if_pos (show nI (sR s (sH s - (j + 1))) ≤ (5 : Int32) from nI_le (b := 5) (by omega) (by decide)), mlet_eq, pk_sub (by omega), show sH s - (sH s - (j + 1)) = j + 1 by omega, mlet_eq, mlet_eq, mck_ok (vp_in_nI (by omega) (by decide)), mlet_eq, nI_clamp (by omega), fst_eq _ (by omega)]
    generalize ht' : sR s (sH s - (j + 1)) = t at ht ⊢
    have hlen := rw5_len t (by omega)
    have hf32 := fst_32 (t + 1) (by omega)
    have eG : Gc s (j + 1) made lk = (rw5 t).flatMap fun m => if gok lk (j + 1) m then Gc s j (made ||| m * 2 ^ (15 - sW s * (sH s - (j + 1)))) (lkN lk m) else [] := by
      show (rw5 (sR s (sH s - (j + 1)))).flatMap _ = _
      rw [ht']
    generalize hg : (fun m => if gok lk (j + 1) m then Gc s j (made ||| m * 2 ^ (15 - sW s * (sH s - (j + 1)))) (lkN lk m) else []) = g at eG
    rw [eG] at hl ⊢
    refine lpI (fun f (x : mH) i => x_X1_addFrom_112 N (x_X1_addFrom N dd) a b (nI (sH s - (j + 1))) (nI made) (nI (K5 lk 0)) (nI (K5 lk 1)) (nI (K5 lk 2)) (nI t) (mustI lk (j + 1)) (mayI lk) f i x) (fun k x => UL x a (L ++ ((rw5 t).take (k - fst5 t)).flatMap g) ∧ frU a h x ∧ fst5 t ≤ k) (fun o => ∃ h', o = some h' ∧ UL h' a (L ++ (rw5 t).flatMap g) ∧ frU a h h') (fst5 (t + 1)) (fun f k x hk p => Or.inl ?_) (fun f x p => ?_) N (fst5 t) h (by omega) (by omega) ⟨by simpa using u, frU.refl, Nat.le_refl _⟩
    · obtain ⟨p1, p2, p3⟩ := p
      have hk' : k - fst5 t < (rw5 t).length := by omega
      obtain ⟨m, hm⟩ : ∃ m, (rw5 t)[k - fst5 t]? = some m := ⟨_, List.getElem?_eq_getElem hk'⟩
      have hmD : (rw5 t).getD (k - fst5 t) 0 = m := by rw [List.getD_eq_getElem?_getD, hm]; rfl
      have hm32 : m < 32 := rw5_lt (List.mem_of_getElem? hm)
      obtain ⟨sp1, sp2⟩ := flat_split g (rw5 t) _ m hm
      rw [sp1] at hl
      simp only [List.length_append] at hl
      have csx : CS x b s := p2.cs hab cs
      have e1 : mRows k = nI m := by
        have := rw5_at t (by omega) _ hk'
        rw [hmD, show fst5 t + (k - fst5 t) = k by omega] at this
        exact this
      have ek : k + 1 - fst5 t = k - fst5 t + 1 := by omega
      show ∃ a', x_X1_addFrom_112 N (x_X1_addFrom N dd) a b (nI (sH s - (j + 1))) (nI made) (nI (K5 lk 0)) (nI (K5 lk 1)) (nI (K5 lk 2)) (nI t) (mustI lk (j + 1)) (mayI lk) (f + 1) (nI k) x = x_X1_addFrom_112 N (x_X1_addFrom N dd) a b (nI (sH s - (j + 1))) (nI made) (nI (K5 lk 0)) (nI (K5 lk 1)) (nI (K5 lk 2)) (nI t) (mustI lk (j + 1)) (mayI lk) f (nI (k + 1)) a' ∧ _
      rw [x_X1_addFrom_112_s, nI_1, mck_ok (vp_in_nI (by omega) (by decide)), nI_clamp (by omega), fst_eq _ (by omega), if_neg (nI_ge hk (by omega)), mck_ok (vp_in_nI (by omega) (by decide)), nI_clamp (by omega), e1, mlet_eq]
      unfold x_X1_addFrom_207
      rw [nI_1]
      have ge := gok_eq (left := j + 1) h8 (by omega) (by omega) hm32
      by_cases cg : gok lk (j + 1) m = true
      · obtain ⟨g1, g2⟩ := ge.mpr cg
        obtain ⟨n0, n1, n2⟩ := next_eq h8 hm32 cg
        rw [if_neg (fun q => q g1), if_neg (fun q => q g2)]
        simp only [mlet_eq]
        unfold x_X6_placed
        have e15 : (15 : Int32) - mgi x b 1 * nI (sH s - (j + 1)) = nI (15 - sW s * (sH s - (j + 1))) := by
          have : sW s * (sH s - (j + 1)) ≤ 5 * 3 := Nat.mul_le_mul w5 (by omega)
          rw [csx.2.1, pk_mul, show (15 : Int32) = nI 15 from rfl, pk_sub (by omega)]
        simp only [Option.bind_some]
        rw [e15, shl_nI _ _ (by omega), fa_or, n0, n1, n2, nI_1, show sH s - (j + 1) + 1 = sH s - j by omega]
        have gm : g m = Gc s j (made ||| m * 2 ^ (15 - sW s * (sH s - (j + 1)))) (lkN lk m) := by rw [← hg]; exact if_pos cg
        obtain ⟨h', i1, i2, i3⟩ := ih dd (made ||| m * 2 ^ (15 - sW s * (sH s - (j + 1)))) (lkN lk m) (L ++ ((rw5 t).take (k - fst5 t)).flatMap g) x (by omega) (by omega) (fun c hc => Nat.lt_of_le_of_lt (Nat.sub_le _ _) (h8 c hc)) csx p1 (by rw [← gm]; simp only [List.length_append]; omega)
        rw [i1]
        refine ⟨h', rfl, ?_, p2.trans i3, by omega⟩
        rw [ek, sp2, gm, ← List.append_assoc]
        exact i2
      · have gm : g m = [] := by rw [← hg]; exact if_neg cg
        have same : UL x a (L ++ ((rw5 t).take (k + 1 - fst5 t)).flatMap g) := by
          rw [ek, sp2, gm, List.append_nil]; exact p1
        by_cases c1 : (nI m &&& mustI lk (j + 1)) = mustI lk (j + 1)
        · rw [if_neg (fun q => q c1), if_pos (fun q => cg (ge.mp ⟨c1, q⟩))]
          exact ⟨x, rfl, same, p2, by omega⟩
        · rw [if_pos c1]
          exact ⟨x, rfl, same, p2, by omega⟩
    · obtain ⟨p1, p2, p3⟩ := p
      show ∃ h', x_X1_addFrom_112 N (x_X1_addFrom N dd) a b (nI (sH s - (j + 1))) (nI made) (nI (K5 lk 0)) (nI (K5 lk 1)) (nI (K5 lk 2)) (nI t) (mustI lk (j + 1)) (mayI lk) (f + 1) (nI (fst5 (t + 1))) x = some h' ∧ _
      rw [x_X1_addFrom_112_s, nI_1, mck_ok (vp_in_nI (by omega) (by decide)), nI_clamp (by omega), fst_eq _ (by omega), if_pos (nI_le (Nat.le_refl _) (by omega))]
      refine ⟨x, rfl, ?_, p2⟩
      rw [← hlen, Nat.add_sub_cancel, List.take_length] at p1
      exact p1
