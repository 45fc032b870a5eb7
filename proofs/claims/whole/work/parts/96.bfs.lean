/-! walks: two answers of which four cells differ are a switch apart -/
theorem ct_4 {p : Nat → Bool} {n a b c d e : Nat} (ha : a < n) (hb : b < n) (hc : c < n) (hd : d < n) (he : e < n) (pa : p a = true) (pb : p b = true) (pc : p c = true) (pd : p d = true) (pe : p e = true) (h : fb_ct p n = 4) (ab : a ≠ b) (ac : a ≠ c) (ad : a ≠ d) (bc : b ≠ c) (bd : b ≠ d) (cd : c ≠ d) : e = a ∨ e = b ∨ e = c ∨ e = d := by
  refine Classical.byContradiction fun ne => ?_
  have n1 : e ≠ a := fun q => ne (Or.inl q)
  have n2 : e ≠ b := fun q => ne (Or.inr (Or.inl q))
  have n3 : e ≠ c := fun q => ne (Or.inr (Or.inr (Or.inl q)))
  have n4 : e ≠ d := fun q => ne (Or.inr (Or.inr (Or.inr q)))
  have dj : ∀ (f : Nat → Bool) (x : Nat), f x = false → x < n → fb_ct (fun k => f k || decide (k = x)) n = fb_ct f n + 1 := fun f x hf hx => by
    rw [fb_ct_or (fun k _ ⟨u, v⟩ => by have : k = x := by simpa using v
                                       rw [this, hf] at u; cases u), ct_one hx]
  have e1 := ct_one ha
  have e2 := dj (fun k => decide (k = a)) b (by simp [Ne.symm ab]) hb
  have e3 := dj (fun k => decide (k = a) || decide (k = b)) c (by simp [Ne.symm ac, Ne.symm bc]) hc
  have e4 := dj (fun k => (decide (k = a) || decide (k = b)) || decide (k = c)) d (by simp [Ne.symm ad, Ne.symm bd, Ne.symm cd]) hd
  have e5 := dj (fun k => ((decide (k = a) || decide (k = b)) || decide (k = c)) || decide (k = d)) e (by simp [n1, n2, n3, n4]) he
  have le : fb_ct (fun k => (((decide (k = a) || decide (k = b)) || decide (k = c)) || decide (k = d)) || decide (k = e)) n ≤ fb_ct p n := fb_ct_sub fun k _ hk => by
    simp only [Bool.or_eq_true, decide_eq_true_eq] at hk
    rcases hk with (((q | q) | q) | q) | q <;> rw [q] <;> assumption
  omega
theorem ct_four {n a b c d : Nat} (ha : a < n) (hb : b < n) (hc : c < n) (hd : d < n) (ab : a ≠ b) (ac : a ≠ c) (ad : a ≠ d) (bc : b ≠ c) (bd : b ≠ d) (cd : c ≠ d) : fb_ct (fun k => (decide (k = a) || decide (k = b)) || (decide (k = c) || decide (k = d))) n = 4 := by
  have dj : ∀ (f : Nat → Bool) (x : Nat), f x = false → x < n → fb_ct (fun k => f k || decide (k = x)) n = fb_ct f n + 1 := fun f x hf hx => by
    rw [fb_ct_or (fun k _ ⟨u, v⟩ => by have : k = x := by simpa using v
                                       rw [this, hf] at u; cases u), ct_one hx]
  have e1 := ct_one ha
  have e2 := dj (fun k => decide (k = a)) b (by simp [Ne.symm ab]) hb
  have e3 := dj (fun k => decide (k = a) || decide (k = b)) c (by simp [Ne.symm ac, Ne.symm bc]) hc
  have e4 := dj (fun k => (decide (k = a) || decide (k = b)) || decide (k = c)) d (by simp [Ne.symm ad, Ne.symm bd, Ne.symm cd]) hd
  rw [fb_ct_cong (q := fun k => ((decide (k = a) || decide (k = b)) || decide (k = c)) || decide (k = d)) (fun k _ => by simp only [Bool.or_assoc])]
  omega
/-- how many cells differ -/
theorem nb4_cells {s : Sh} (w : WS s) {x y : Nat} (hx : x < 2 ^ sN s) (hy : y < 2 ^ sN s) : nb4 x y = true ↔ fb_ct (fun k => cb s (x ^^^ y) k) (sN s) = 4 := by
  have n20 := w.n20
  have hz : x ^^^ y < 2 ^ sN s := Nat.xor_lt_two_pow hx hy
  unfold nb4
  rw [beq_iff_eq]
  have e1 : fb_ct (fun j => (x ^^^ y).testBit j) 20 = fb_ct (fun j => (x ^^^ y).testBit j) (sN s) := bc_small hz n20.2
  have e2 : fb_ct (fun k => cb s (x ^^^ y) k) (sN s) = fb_ct (fun j => (x ^^^ y).testBit j) (sN s) := ct_rev (fun j => (x ^^^ y).testBit j) (sN s)
  rw [e1, e2]
theorem cb_xor (s : Sh) (x y k : Nat) : cb s (x ^^^ y) k = (cb s x k ^^ cb s y k) := by unfold cb; rw [Nat.testBit_xor]
theorem nb4_swt {s : Sh} (w : WS s) {q r r' c d : Nat} (hr : r < sH s) (hr' : r' < sH s) (hc : c < sW s) (hd : d < sW s) (hs : swc s q r r' c d = true) (hq : q < 2 ^ sN s) : nb4 q (swt s q r r' c d) = true := by
  obtain ⟨hne, hcd⟩ := swc_ne hs
  rw [nb4_cells w hq (swt_lt w hq)]
  rw [fb_ct_cong (q := fun k => (decide (k = sW s * r + c) || decide (k = sW s * r' + d)) || (decide (k = sW s * r + d) || decide (k = sW s * r' + c))) (fun k hk => by
    rw [cb_xor, cb_swt hr hr' hc hd hk]
    cases cb s q k <;> simp)]
  refine ct_four (cell_lt hr hc) (cell_lt hr' hd) (cell_lt hr hd) (cell_lt hr' hc) ?_ ?_ ?_ ?_ ?_ ?_
  · exact fun e => hne ((cell_inj hc hd).mp e).1
  · exact fun e => hcd ((cell_inj hc hd).mp e).2
  · exact fun e => hne ((cell_inj hc hc).mp e).1
  · exact fun e => hne ((cell_inj hd hd).mp e).1.symm
  · exact fun e => hcd ((cell_inj hd hc).mp e).2.symm
  · exact fun e => hne ((cell_inj hd hc).mp e).1
theorem ans_parts {s : Sh} {q : Nat} (h : q ∈ ans s) : q < 2 ^ sN s ∧ (∀ r, r < sH s → fb_ct (fun c => cb s q (sW s * r + c)) (sW s) = sR s r) ∧ (∀ c, c < sW s → fb_ct (fun r => cb s q (sW s * r + c)) (sH s) = sC s c) ∧ ∀ k, k < sN s → (sP s k = 1 → cb s q k = true) ∧ (sP s k = 2 → cb s q k = false) := by
  unfold ans ans0 at h
  rw [List.mem_filter, List.mem_filter, List.mem_range] at h
  obtain ⟨⟨h1, h2⟩, h3⟩ := h
  unfold isAns0 at h2
  unfold isPin at h3
  rw [Bool.and_eq_true, List.all_eq_true, List.all_eq_true] at h2
  rw [List.all_eq_true] at h3
  refine ⟨h1, fun r hr => by have := h2.1 r (List.mem_range.mpr hr); simpa using this, fun c hc => by have := h2.2 c (List.mem_range.mpr hc); simpa using this, fun k hk => ?_⟩
  have := h3 k (List.mem_range.mpr hk)
  refine ⟨fun e => ?_, fun e => ?_⟩
  · rw [e] at this; simpa using this
  · rw [e] at this; simpa using this
/-- where one has more, the other has more elsewhere -/
theorem other {p p' : Nat → Bool} {n i : Nat} (h : fb_ct p n = fb_ct p' n) (hi : i < n) (h1 : p i = true) (h2 : p' i = false) : ∃ j, j < n ∧ p j = false ∧ p' j = true := by
  refine Classical.byContradiction fun ne => ?_
  have := ct_strict (p := p') (q := p) hi h2 h1 (fun k hk hk' => by
    cases e : p k with
    | true => rfl
    | false => exact absurd ⟨k, hk, e, hk'⟩ ne)
  omega
theorem nb4_is {s : Sh} (w : WS s) {q q' : Nat} (hq : q ∈ ans s) (hq' : q' ∈ ans s) (h : nb4 q q' = true) : ∃ r r' c d, r < r' ∧ r' < sH s ∧ c < sW s ∧ d < sW s ∧ swc s q r r' c d = true ∧ q' = swt s q r r' c d := by
  obtain ⟨l1, R1, C1, P1⟩ := ans_parts hq
  obtain ⟨l2, R2, C2, P2⟩ := ans_parts hq'
  rw [nb4_cells w l1 l2] at h
  have pin0 : ∀ k, k < sN s → cb s q k ≠ cb s q' k → sP s k = 0 := fun k hk hd => by
    have p2 := w.2.2.2.2.2.2.1 k hk
    rcases (by omega : sP s k = 0 ∨ sP s k = 1 ∨ sP s k = 2) with e | e | e
    · exact e
    · exact absurd ((P1 k hk).1 e ▸ (P2 k hk).1 e ▸ rfl) hd
    · exact absurd ((P1 k hk).2 e ▸ (P2 k hk).2 e ▸ rfl) hd
  obtain ⟨k0, hk0, d0⟩ : ∃ k, k < sN s ∧ cb s (q ^^^ q') k = true := fb_ct_pos.mp (show 0 < fb_ct (fun k => cb s (q ^^^ q') k) (sN s) by rw [h]; decide)
  have dec : ∀ k, k < sN s → k = sW s * (k / sW s) + k % sW s ∧ k / sW s < sH s ∧ k % sW s < sW s := fun k hk => ⟨(Nat.div_add_mod _ _).symm, Nat.div_lt_of_lt_mul (by rw [Nat.mul_comm]; exact hk), Nat.mod_lt _ w.2.2.1⟩
  obtain ⟨r, c, hr, hc, p1, p1'⟩ : ∃ r c, r < sH s ∧ c < sW s ∧ cb s q (sW s * r + c) = true ∧ cb s q' (sW s * r + c) = false := by
    obtain ⟨e, e1, e2⟩ := dec k0 hk0
    rw [cb_xor, e] at d0
    cases a : cb s q (sW s * (k0 / sW s) + k0 % sW s) with
    | true =>
      rw [a] at d0
      exact ⟨_, _, e1, e2, a, by simpa using d0⟩
    | false =>
      rw [a] at d0
      have b : cb s q' (sW s * (k0 / sW s) + k0 % sW s) = true := by simpa using d0
      obtain ⟨j, hj, j1, j2⟩ := other (p := fun c => cb s q' (sW s * (k0 / sW s) + c)) (p' := fun c => cb s q (sW s * (k0 / sW s) + c)) (by rw [R1 _ e1, R2 _ e1]) e2 b a
      exact ⟨_, j, e1, hj, j2, j1⟩
  obtain ⟨d, hd, m1, m1'⟩ := other (p := fun c => cb s q (sW s * r + c)) (p' := fun c => cb s q' (sW s * r + c)) (by rw [R1 _ hr, R2 _ hr]) hc p1 p1'
  obtain ⟨r', hr', m2, m2'⟩ := other (p := fun r => cb s q (sW s * r + c)) (p' := fun r => cb s q' (sW s * r + c)) (by rw [C1 _ hc, C2 _ hc]) hr p1 p1'
  obtain ⟨d2, hd2, p2, p2'⟩ := other (p := fun c => cb s q' (sW s * r' + c)) (p' := fun c => cb s q (sW s * r' + c)) (by rw [R1 _ hr', R2 _ hr']) hc m2' m2
  have hm1 : cb s q (sW s * r + d) = false := m1
  have hm1' : cb s q' (sW s * r + d) = true := m1'
  have hm2 : cb s q (sW s * r' + c) = false := m2
  have hm2' : cb s q' (sW s * r' + c) = true := m2'
  have hp2 : cb s q (sW s * r' + d2) = true := p2'
  have hp2' : cb s q' (sW s * r' + d2) = false := p2
  have rr : r ≠ r' := fun e => by rw [e, hm2] at p1; cases p1
  have cd : c ≠ d := fun e => by rw [e, hm1] at p1; cases p1
  have cd2 : c ≠ d2 := fun e => by rw [e, hp2] at hm2; cases hm2
  have x1 : cb s (q ^^^ q') (sW s * r + c) = true := by rw [cb_xor, p1, p1']; rfl
  have x2 : cb s (q ^^^ q') (sW s * r' + d2) = true := by rw [cb_xor, hp2, hp2']; rfl
  have x3 : cb s (q ^^^ q') (sW s * r + d) = true := by rw [cb_xor, hm1, hm1']; rfl
  have x4 : cb s (q ^^^ q') (sW s * r' + c) = true := by rw [cb_xor, hm2, hm2']; rfl
  have ii := fun e he pe => ct_4 (p := fun k => cb s (q ^^^ q') k) (e := e) (cell_lt hr hc) (cell_lt hr' hd2) (cell_lt hr hd) (cell_lt hr' hc) he x1 x2 x3 x4 pe h (fun e => rr ((cell_inj hc hd2).mp e).1) (fun e => cd ((cell_inj hc hd).mp e).2) (fun e => rr ((cell_inj hc hc).mp e).1) (fun e => rr ((cell_inj hd2 hd).mp e).1.symm) (fun e => cd2 ((cell_inj hd2 hc).mp e).2.symm) (fun e => rr ((cell_inj hd hc).mp e).1)
  obtain ⟨r3, hr3, y1, y1'⟩ := other (p := fun r => cb s q' (sW s * r + d)) (p' := fun r => cb s q (sW s * r + d)) (by rw [C1 _ hd, C2 _ hd]) hr m1' m1
  have hy1 : cb s q' (sW s * r3 + d) = false := y1
  have hy1' : cb s q (sW s * r3 + d) = true := y1'
  have ed : d2 = d := by
    rcases ii (sW s * r3 + d) (cell_lt hr3 hd) (by rw [cb_xor, hy1, hy1']; rfl) with e | e | e | e
    · exact absurd ((cell_inj hd hc).mp e).2.symm cd
    · exact ((cell_inj hd hd2).mp e).2.symm
    · rw [e, hm1] at hy1'; cases hy1'
    · exact absurd ((cell_inj hd hc).mp e).2.symm cd
  subst ed
  have z1 := pin0 _ (cell_lt hr hc) (by rw [p1, p1']; decide)
  have z2 := pin0 _ (cell_lt hr' hd2) (by rw [hp2, hp2']; decide)
  have z3 := pin0 _ (cell_lt hr hd2) (by rw [hm1, hm1']; decide)
  have z4 := pin0 _ (cell_lt hr' hc) (by rw [hm2, hm2']; decide)
  have big : ∀ m, m < 2 ^ sN s → ∀ i, sN s ≤ i → m.testBit i = false := fun m hm i hi => Nat.testBit_lt_two_pow (Nat.lt_of_lt_of_le hm (Nat.pow_le_pow_right (by decide) hi))
  have same : ∀ z, z < 2 ^ sN s → (∀ k, k < sN s → cb s q' k = cb s z k) → q' = z := fun z hz H => by
    refine Nat.eq_of_testBit_eq fun i => ?_
    rcases Nat.lt_or_ge i (sN s) with c | c
    · have := H (sN s - 1 - i) (by omega)
      unfold cb at this
      rwa [show sN s - 1 - (sN s - 1 - i) = i by omega] at this
    · rw [big _ l2 i c, big _ hz i c]
  have cells : ∀ k, k < sN s → cb s q' k = (cb s q k ^^ (decide (k = sW s * r + c) || decide (k = sW s * r' + d2) || (decide (k = sW s * r + d2) || decide (k = sW s * r' + c)))) := fun k hk => by
    by_cases e : cb s (q ^^^ q') k = true
    · have t : (decide (k = sW s * r + c) || decide (k = sW s * r' + d2) || (decide (k = sW s * r + d2) || decide (k = sW s * r' + c))) = true := by
        rcases ii k hk e with u | u | u | u <;> simp [u]
      rw [t]
      rw [cb_xor] at e
      revert e
      cases cb s q k <;> cases cb s q' k <;> simp
    · have t : (decide (k = sW s * r + c) || decide (k = sW s * r' + d2) || (decide (k = sW s * r + d2) || decide (k = sW s * r' + c))) = false := by
        refine Bool.eq_false_iff.mpr fun u => e ?_
        simp only [Bool.or_eq_true, decide_eq_true_eq] at u
        rcases u with (u | u) | (u | u) <;> rw [u] <;> assumption
      rw [t, Bool.xor_false]
      have e' : cb s (q ^^^ q') k = false := by simpa using e
      rw [cb_xor] at e'
      revert e'
      cases cb s q k <;> cases cb s q' k <;> simp
  rcases Nat.lt_or_ge r r' with lt | ge
  · refine ⟨r, r', c, d2, lt, hr', hc, hd2, ?_, same _ (swt_lt w l1) fun k hk => by rw [cells k hk, cb_swt hr hr' hc hd2 hk]⟩
    unfold swc
    rw [Bool.and_eq_true, gv_iff, gv_iff]
    exact ⟨⟨p1, hm2, z1, z4⟩, hp2, hm1, z2, z3⟩
  · refine ⟨r', r, d2, c, by omega, hr, hd2, hc, ?_, same _ (swt_lt w l1) fun k hk => ?_⟩
    · unfold swc
      rw [Bool.and_eq_true, gv_iff, gv_iff]
      exact ⟨⟨hp2, hm1, z2, z3⟩, p1, hm2, z1, z4⟩
    · rw [cells k hk, cb_swt hr' hr hd2 hc hk]
      cases cb s q k <;> cases decide (k = sW s * r + c) <;> cases decide (k = sW s * r' + d2) <;> cases decide (k = sW s * r + d2) <;> cases decide (k = sW s * r' + c) <;> rfl
/-! a walk in breadth -/
def nbr (l : List Nat) (k j : Nat) : Bool := nb4 (l.getD k 0) (l.getD j 0)
def BJ (l : List Nat) (i a : Nat) (Q : List Nat) (D : Nat → Nat) : Prop :=
  (Q.Nodup ∧ ∀ u ∈ Q, u < l.length) ∧ (Q[0]? = some i ∧ D i = 0) ∧
  (∀ x y u v : Nat, x ≤ y → Q[x]? = some u → Q[y]? = some v → D u ≤ D v) ∧
  (∀ v : Nat, Q[a]? = some v → ∀ u ∈ Q, D u ≤ D v + 1) ∧
  (∀ x u : Nat, Q[x]? = some u → way l (D u) i u = true ∧ D u ≤ x) ∧
  (∀ y v : Nat, y < a → Q[y]? = some v → ∀ u, u < l.length → nbr l v u = true → u ∈ Q ∧ D u ≤ D v + 1)
theorem BJ.start {l : List Nat} {i : Nat} (hi : i < l.length) : BJ l i 0 [i] (fun _ => 0) := by
  refine ⟨⟨by simp, fun u hu => by rw [List.mem_singleton] at hu; rw [hu]; exact hi⟩, ⟨rfl, rfl⟩, fun _ _ _ _ _ _ _ => Nat.le_refl _, fun v hv u hu => Nat.zero_le _, fun x u hx => ?_, fun y v hy => by omega⟩
  have : u = i := by
    cases x with
    | zero => simpa using hx.symm
    | succ x => simp at hx
  rw [this]
  refine ⟨?_, Nat.zero_le _⟩
  show way l 0 i i = true
  rw [way]
  simp [hi]
theorem get_app {Q : List Nat} {u v x : Nat} (h : (Q ++ [u])[x]? = some v) : (x < Q.length ∧ Q[x]? = some v) ∨ (x = Q.length ∧ v = u) := by
  by_cases c : x < Q.length
  · rw [List.getElem?_append_left c] at h
    exact Or.inl ⟨c, h⟩
  · rw [List.getElem?_append_right (by omega)] at h
    by_cases d : x - Q.length = 0
    · rw [d] at h
      simp at h
      exact Or.inr ⟨by omega, h.symm⟩
    · obtain ⟨n, hn⟩ : ∃ n, x - Q.length = n + 1 := ⟨x - Q.length - 1, by omega⟩
      rw [hn] at h
      simp at h
/-- a new one is come to -/
theorem BJ.add {l : List Nat} {i a v u : Nat} {Q : List Nat} {D : Nat → Nat} (b : BJ l i a Q D) (hv : Q[a]? = some v) (hu : u < l.length) (he : nbr l v u = true) (hn : ¬ u ∈ Q) : BJ l i a (Q ++ [u]) (fun k => if k = u then D v + 1 else D k) ∧ ∀ k ∈ Q, (if k = u then D v + 1 else D k) = D k := by
  obtain ⟨⟨b1, b1'⟩, ⟨b2, b2'⟩, b3, b4, b5, b6⟩ := b
  have same : ∀ k ∈ Q, (if k = u then D v + 1 else D k) = D k := fun k hk => if_neg (show ¬ k = u from fun e => hn (by rw [← e]; exact hk))
  have hvm : v ∈ Q := List.mem_of_getElem? hv
  have ha : a < Q.length := (List.getElem?_eq_some_iff.mp hv).1
  have him : i ∈ Q := List.mem_of_getElem? b2
  refine ⟨⟨⟨?_, fun k hk => ?_⟩, ⟨?_, ?_⟩, fun x y p r hxy hx hy => ?_, fun v' hv' k hk => ?_, fun x k hx => ?_, fun y p hy hp k hk hnk => ?_⟩, same⟩
  · rw [List.nodup_append]
    exact ⟨b1, by simp, fun p hp r hr => by rw [List.mem_singleton] at hr; rw [hr]; exact fun e => hn (e ▸ hp)⟩
  · rw [List.mem_append, List.mem_singleton] at hk
    rcases hk with q | q
    · exact b1' k q
    · rw [q]; exact hu
  · rw [List.getElem?_append_left (by omega)]; exact b2
  · show (if i = u then D v + 1 else D i) = 0
    rw [same i him]; exact b2'
  · show (if p = u then D v + 1 else D p) ≤ (if r = u then D v + 1 else D r)
    rcases get_app hx with ⟨x1, x2⟩ | ⟨x1, x2⟩
    · rw [same p (List.mem_of_getElem? x2)]
      rcases get_app hy with ⟨y1, y2⟩ | ⟨y1, y2⟩
      · rw [same r (List.mem_of_getElem? y2)]; exact b3 x y p r hxy x2 y2
      · rw [if_pos y2]; exact b4 v hv p (List.mem_of_getElem? x2)
    · rcases get_app hy with ⟨y1, y2⟩ | ⟨y1, y2⟩
      · omega
      · rw [x2, y2]; exact Nat.le_refl _
  · have ev : v' = v := by
      rw [List.getElem?_append_left ha, hv] at hv'
      cases hv'; rfl
    rw [ev]
    show (if k = u then D v + 1 else D k) ≤ (if v = u then D v + 1 else D v) + 1
    rw [same v hvm]
    rw [List.mem_append, List.mem_singleton] at hk
    rcases hk with q | q
    · rw [same k q]; exact b4 v hv k q
    · rw [if_pos q]; exact Nat.le_refl _
  · show way l (if k = u then D v + 1 else D k) i k = true ∧ (if k = u then D v + 1 else D k) ≤ x
    rcases get_app hx with ⟨x1, x2⟩ | ⟨x1, x2⟩
    · rw [same k (List.mem_of_getElem? x2)]; exact b5 x k x2
    · obtain ⟨w1, w2⟩ := b5 a v hv
      rw [if_pos x2, x2]
      refine ⟨?_, by omega⟩
      rw [way, List.any_eq_true]
      have e : nb4 (l.getD v 0) (l.getD u 0) = true := he
      exact ⟨v, List.mem_range.mpr (b1' v hvm), by rw [w1, e]; simp [hu]⟩
  · show k ∈ Q ++ [u] ∧ (if k = u then D v + 1 else D k) ≤ (if p = u then D v + 1 else D p) + 1
    have hp' : Q[y]? = some p := by
      rw [List.getElem?_append_left (by omega)] at hp; exact hp
    obtain ⟨k1, k2⟩ := b6 y p hy hp' k hk hnk
    rw [same k k1, same p (List.mem_of_getElem? hp')]
    exact ⟨List.mem_append_left _ k1, k2⟩
/-- one is done with -/
theorem BJ.next {l : List Nat} {i a v : Nat} {Q : List Nat} {D : Nat → Nat} (b : BJ l i a Q D) (hv : Q[a]? = some v) (h : ∀ u, u < l.length → nbr l v u = true → u ∈ Q) : BJ l i (a + 1) Q D := by
  obtain ⟨b1, b2, b3, b4, b5, b6⟩ := b
  refine ⟨b1, b2, b3, fun v' hv' u hu => ?_, b5, fun y p hy hp u hu hn => ?_⟩
  · have := b4 v hv u hu
    have := b3 a (a + 1) v v' (by omega) hv hv'
    omega
  · by_cases c : y = a
    · rw [c, hv] at hp
      cases hp
      have := h u hu hn
      exact ⟨this, b4 v hv u this⟩
    · exact b6 y p (by omega) hp u hu hn
theorem ct_mem {L : Nat} : ∀ (Q : List Nat), Q.Nodup → (∀ u ∈ Q, u < L) → fb_ct (fun j => decide (j ∈ Q)) L = Q.length
  | [], _, _ => fb_ct_zero.mpr fun k _ => by simp
  | u :: Q, hn, hl => by
    rw [List.nodup_cons] at hn
    have ih := ct_mem Q hn.2 (fun v hv => hl v (List.mem_cons_of_mem _ hv))
    have hu := hl u List.mem_cons_self
    have e := fb_ct_or (p := fun j => decide (j ∈ Q)) (q := fun j => decide (j = u)) (n := L) (fun k _ ⟨x, y⟩ => by
      have y' : k = u := by simpa using y
      have x' : k ∈ Q := by simpa using x
      exact hn.1 (y' ▸ x'))
    rw [ct_one hu, ih] at e
    rw [List.length_cons, ← e]
    refine fb_ct_cong fun k _ => ?_
    rw [Bool.eq_iff_iff]
    simp only [decide_eq_true_eq, List.mem_cons, Bool.or_eq_true]
    exact ⟨fun q => q.elim Or.inr Or.inl, fun q => q.elim Or.inr Or.inl⟩
/-- the end: all neighbours are come to -/
theorem BJ.fin {l : List Nat} {i a : Nat} {Q : List Nat} {D : Nat → Nat} (b : BJ l i a Q D) (h : a = Q.length ∨ (a < Q.length ∧ Q.length = l.length)) : rchN l i = Q.length ∧ ∀ j, j < l.length → dstI l i j = if j ∈ Q then nI (D j) else -9 := by
  obtain ⟨⟨b1, b1'⟩, ⟨b2, b2'⟩, b3, b4, b5, b6⟩ := b
  have him : i ∈ Q := List.mem_of_getElem? b2
  have at' : ∀ u ∈ Q, ∃ x, x < Q.length ∧ Q[x]? = some u := fun u hu => by
    obtain ⟨x, hx, e⟩ := List.mem_iff_getElem.mp hu
    exact ⟨x, hx, by rw [List.getElem?_eq_getElem hx, e]⟩
  have full : Q.length = l.length → ∀ u, u < l.length → u ∈ Q := fun hl u hu => by
    have c := ct_mem (L := l.length) Q b1 b1'
    rw [hl] at c
    have := fb_ct_all.mp c u hu
    simpa using this
  have closed : ∀ k ∈ Q, ∀ u, u < l.length → nbr l k u = true → u ∈ Q ∧ D u ≤ D k + 1 := fun k hk u hu hn => by
    obtain ⟨x, hx, ex⟩ := at' k hk
    rcases h with h | ⟨h1, h2⟩
    · exact b6 x k (by omega) ex u hu hn
    · by_cases c : x < a
      · exact b6 x k c ex u hu hn
      · have uq := full h2 u hu
        obtain ⟨v, hv⟩ : ∃ v, Q[a]? = some v := ⟨_, List.getElem?_eq_getElem h1⟩
        have := b4 v hv u uq
        have := b3 a x v k (by omega) hv ex
        exact ⟨uq, by omega⟩
  have low : ∀ m u, way l m i u = true → u ∈ Q ∧ D u ≤ m := by
    intro m
    induction m with
    | zero =>
      intro u hu
      rw [way] at hu
      have : i = u := by
        rw [Bool.and_eq_true, beq_iff_eq] at hu
        exact hu.1
      rw [← this]
      exact ⟨him, by omega⟩
    | succ m ih =>
      intro u hu
      rw [way, List.any_eq_true] at hu
      obtain ⟨k, hk, hk'⟩ := hu
      rw [Bool.and_eq_true, Bool.and_eq_true, decide_eq_true_eq] at hk'
      obtain ⟨k1, k2⟩ := ih k hk'.1.1
      obtain ⟨u1, u2⟩ := closed k k1 u hk'.1.2 hk'.2
      exact ⟨u1, by omega⟩
  have lenL : Q.length ≤ l.length := by
    rw [← ct_mem (L := l.length) Q b1 b1']
    exact fb_ct_le _ _
  have up : ∀ u ∈ Q, way l (D u) i u = true ∧ D u < l.length + 1 := fun u hu => by
    obtain ⟨x, hx, ex⟩ := at' u hu
    obtain ⟨w1, w2⟩ := b5 x u ex
    exact ⟨w1, by omega⟩
  constructor
  · unfold rchN
    rw [← ct_mem (L := l.length) Q b1 b1']
    refine fb_ct_cong fun j hj => ?_
    rw [Bool.eq_iff_iff, decide_eq_true_eq, List.any_eq_true]
    constructor
    · rintro ⟨n, -, hn⟩
      exact (low n j hn).1
    · intro hq
      exact ⟨D j, List.mem_range.mpr (up j hq).2, (up j hq).1⟩
  · intro j hj
    unfold dstI
    by_cases c : j ∈ Q
    · have f : (List.range (l.length + 1)).find? (fun n => way l n i j) = some (D j) := by
        rw [List.find?_eq_some_iff_getElem]
        refine ⟨(up j c).1, D j, by simpa using (up j c).2, by simp, fun m hm => ?_⟩
        simp only [List.getElem_range]
        cases e : way l m i j with
        | false => rfl
        | true => have := (low m j e).2; omega
      rw [f, if_pos c]
    · have f : (List.range (l.length + 1)).find? (fun n => way l n i j) = none := by
        rw [List.find?_eq_none]
        intro n _ hn
        exact c (low n j hn).1
      rw [f, if_neg c]
