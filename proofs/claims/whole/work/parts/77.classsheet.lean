/-! the class: sheets -/
theorem mgi_mcp (h : mH) (a b n c j : Nat) : mgi (mcp h a b n) c j = if c = b ∧ j < n then mgi h a j else mgi h c j := rfl
def fr3 (t : Nat) (h h' : mH) : Prop := (∀ b k, b ≠ t → b ≠ t + 1 → b ≠ t + 2 → mgi h' b k = mgi h b k) ∧ ∀ b k, mgl h' b k = mgl h b k
theorem become_eq {t p : Nat} {s : Sh} {h : mH} (w : WS s) (hd : t + 2 < p ∨ p + 2 < t) (cs : CS h p s) : ∃ h', x_X6_become t p h = some h' ∧ CS h' t s ∧ fr3 t h h' := by
  obtain ⟨c0, c1, c2, c3, c4, c5, c6⟩ := cs
  have h4 := w.2.1
  have w5 := w.2.2.2.1
  unfold x_X6_become
  simp only [mlet_eq]
  refine ⟨_, rfl, ⟨?_, ?_, fun r hr => ?_, fun r hr => ?_, ?_, ?_, ?_⟩, fun b k h1 h2 h3 => ?_, fun b k => ?_⟩
  · simp only [mgi_msi, mgi_mcp]
    simp [c0]
  · simp only [mgi_msi, mgi_mcp]
    have : ¬ p = t := by omega
    simp [c1, this]
  · simp only [mgi_msi, mgi_mcp]
    have e1 : ¬ p + 1 = t := by omega
    have e2 : r < 4 := by omega
    simp [e1, e2, c2 r hr]
  · simp only [mgi_msi, mgi_mcp]
    have e1 : ¬ p + 2 = t := by omega
    have e3 : ¬ p + 2 = t + 1 := by omega
    have e2 : r < 5 := by omega
    simp [e1, e2, e3, c3 r hr]
  · simp only [mgi_msi, mgi_mcp]
    have e1 : ¬ p = t := by omega
    have e2 : ¬ p = t + 1 := by omega
    have e3 : ¬ p = t + 2 := by omega
    simp [e1, e2, e3, c4]
  · simp only [mgi_msi, mgi_mcp]
    have e1 : ¬ p = t := by omega
    have e2 : ¬ p = t + 1 := by omega
    have e3 : ¬ p = t + 2 := by omega
    simp [e1, e2, e3, c5]
  · simp only [mgi_msi, mgi_mcp]
    have e1 : ¬ p = t := by omega
    have e2 : ¬ p = t + 1 := by omega
    have e3 : ¬ p = t + 2 := by omega
    simp [e1, e2, e3, c6]
  · simp only [mgi_msi, mgi_mcp]
    simp [h1, h2, h3]
  · rfl
def cntS (s : Sh) (side : Nat) : Nat := if side = 0 then sH s else sW s
def mostS (s : Sh) (side : Nat) : Nat := if side = 0 then sW s else sH s
def totS (s : Sh) (side i : Nat) : Nat := if side = 0 then sR s i else sC s i
def slotS (side i : Nat) : Nat := if side = 0 then 2 + i else 6 + i
def spT (s : Sh) (j v : Nat) : Sh := (fun i => if i = j then v else s.1 i, s.2)
theorem in_cases (x : Int32) {n : Nat} (hn : n < 2 ^ 31) : (∃ k, k < n ∧ x = nI k) ∨ ((x < 0 ∨ nI n ≤ x) ∧ ¬ ∃ k, k < n ∧ x = nI k) := by
  rcases pk_ix x hn with q | q | ⟨j, q⟩
  · refine Or.inr ⟨Or.inl q, fun ⟨k, hk, e⟩ => ?_⟩
    rw [e] at q
    exact nI_pos (by omega) q
  · refine Or.inr ⟨Or.inr q, fun ⟨k, hk, e⟩ => ?_⟩
    rw [e] at q
    exact nI_ge hk hn q
  · exact Or.inl ⟨j, q⟩
theorem hasCell_eq {a : Nat} {s : Sh} {h : mH} (w : WS s) (cs : CS h a s) (x : Int32) : x_X6_hasCell a x h = some (if ∃ k, k < sN s ∧ x = nI k then 1 else 0) := by
  have n20 := w.n20
  have e : mgi h a 0 * mgi h a 1 = nI (sN s) := by rw [cs.1, cs.2.1, pk_mul]; rfl
  unfold x_X6_hasCell x_X6_cells
  simp only [Option.bind_some]
  rw [e]
  rcases in_cases x (n := sN s) (by omega) with ⟨k, hk, rfl⟩ | ⟨q, c⟩
  · rw [if_neg (nI_pos (by omega)), if_neg (nI_ge hk (by omega)), if_pos ⟨k, hk, rfl⟩]
  · rw [if_neg c]
    by_cases z : x < 0
    · rw [if_pos z]
    · rw [if_neg z, if_pos (q.resolve_left z)]
theorem cntS_le {s : Sh} (w : WS s) (side : Nat) : cntS s side ≤ 5 := by
  unfold cntS; have := w.2.1; have := w.2.2.2.1; split <;> omega
theorem side01 {side : Nat} (h : side < 2) : (nI side = 0 ↔ side = 0) := by
  rw [show (0 : Int32) = nI 0 from rfl, nI_eq (by omega) (by decide)]
theorem hasTotal_eq {a side : Nat} {s : Sh} {h : mH} (w : WS s) (cs : CS h a s) (hs : side < 2) (x : Int32) : x_X6_hasTotal a (nI side) x h = some (if ∃ k, k < cntS s side ∧ x = nI k then 1 else 0) := by
  have n5 := cntS_le w side
  unfold x_X6_hasTotal x_X6_totalCount
  simp only [Option.bind_some]
  have e : (if ¬ nI side = 0 then mgi h a 1 else mgi h a 0) = nI (cntS s side) := by
    unfold cntS
    by_cases z : side = 0
    · rw [if_neg (fun q => q ((side01 hs).mpr z)), if_pos z]; exact cs.1
    · rw [if_pos (fun q => z ((side01 hs).mp q)), if_neg z]; exact cs.2.1
  rw [e]
  rcases in_cases x (n := cntS s side) (by omega) with ⟨k, hk, rfl⟩ | ⟨q, c⟩
  · rw [if_neg (nI_pos (by omega)), if_neg (nI_ge hk (by omega)), if_pos ⟨k, hk, rfl⟩]
  · rw [if_neg c]
    by_cases z : x < 0
    · rw [if_pos z]
    · rw [if_neg z, if_pos (q.resolve_left z)]
theorem mostTotal_eq {a side : Nat} {s : Sh} {h : mH} (cs : CS h a s) (hs : side < 2) : x_X6_mostTotal a (nI side) h = some (nI (mostS s side)) := by
  unfold x_X6_mostTotal mostS
  by_cases z : side = 0
  · rw [if_neg (fun q => q ((side01 hs).mpr z)), if_pos z, cs.2.1]
  · rw [if_pos (fun q => z ((side01 hs).mp q)), if_neg z, cs.1]
theorem totalOf_eq {a side i : Nat} {s : Sh} {h : mH} (w : WS s) (cs : CS h a s) (hs : side < 2) (hi : i < cntS s side) : x_X6_totalOf a (nI side) (nI i) h = some (nI (totS s side i)) := by
  unfold cntS at hi
  unfold totS
  by_cases z : side = 0
  · rw [if_pos z] at hi ⊢
    subst z
    exact to_row w cs hi
  · rw [if_neg z] at hi ⊢
    obtain rfl : side = 1 := by omega
    exact to_col w cs hi
theorem putTotal_eq {a side i v : Nat} {s : Sh} {h : mH} (w : WS s) (cs : CS h a s) (hs : side < 2) (hi : i < cntS s side) : ∃ h', x_X6_putTotal a (nI side) (nI i) (nI v) h = some h' ∧ CS h' a (spT s (slotS side i) v) ∧ fr3 a h h' := by
  have h4 := w.2.1
  have w5 := w.2.2.2.1
  unfold x_X6_putTotal
  simp only [mlet_eq]
  unfold cntS at hi
  obtain ⟨c0, c1, c2, c3, c4, c5, c6⟩ := cs
  by_cases z : side = 0
  · rw [if_pos z] at hi
    rw [if_neg (fun q => q ((side01 hs).mpr z)), if_neg (nI_pos (by omega)), if_neg (show ¬ (4 : Int32) ≤ nI i from nI_ge (b := 4) (by omega) (by decide)), mck_ok (vp_in_nI (by omega) (by decide)), nI_clamp (by omega)]
    subst z
    have e0 : sH (spT s (slotS 0 i) v) = sH s := by show (if 0 = 2 + i then v else s.1 0) = _; rw [if_neg (by omega)]; rfl
    have e1 : sW (spT s (slotS 0 i) v) = sW s := by show (if 1 = 2 + i then v else s.1 1) = _; rw [if_neg (by omega)]; rfl
    have e2 : ∀ r, sR (spT s (slotS 0 i) v) r = if r = i then v else sR s r := fun r => by
      show (if 2 + r = 2 + i then v else s.1 (2 + r)) = _
      by_cases q : r = i
      · rw [if_pos q, if_pos (by omega)]
      · rw [if_neg q, if_neg (by omega)]; rfl
    have e3 : ∀ c, sC (spT s (slotS 0 i) v) c = sC s c := fun c => by
      show (if 6 + c = 2 + i then v else s.1 (6 + c)) = _
      rw [if_neg (by omega)]; rfl
    have e4 : ∀ k, sP (spT s (slotS 0 i) v) k = sP s k := fun k => by
      show (if 11 + k = 2 + i then v else s.1 (11 + k)) = _
      rw [if_neg (by omega)]; rfl
    have e5 : sN (spT s (slotS 0 i) v) = sN s := by unfold sN; rw [e0, e1]
    refine ⟨_, rfl, ?_, fun b k h1 h2 h3 => by rw [mgi_msi, if_neg (by omega)], fun _ _ => rfl⟩
    unfold CS
    rw [e0, e1, e5]
    simp only [e2, e3, e4]
    refine ⟨by rw [mgi_msi, if_neg (by omega)]; exact c0, by rw [mgi_msi, if_neg (by omega)]; exact c1, fun r hr => ?_, fun c hc => by rw [mgi_msi, if_neg (by omega)]; exact c3 c hc, by rw [mgi_msi, if_neg (by omega)]; exact c4, by rw [mgi_msi, if_neg (by omega)]; exact c5, ?_⟩
    · rw [mgi_msi]
      by_cases q : r = i
      · rw [if_pos ⟨rfl, q⟩, if_pos q]
      · rw [if_neg (by omega), if_neg q]; exact c2 r hr
    · rw [mgi_msi, if_neg (by omega)]
      unfold plC
      rw [e5]
      exact c6
  · rw [if_neg z] at hi
    rw [if_pos (fun q => z ((side01 hs).mp q)), if_neg (nI_pos (by omega)), if_neg (show ¬ (5 : Int32) ≤ nI i from nI_ge (b := 5) (by omega) (by decide)), mck_ok (vp_in_nI (by omega) (by decide)), nI_clamp (by omega)]
    have e0 : sH (spT s (slotS side i) v) = sH s := by
      unfold slotS; rw [if_neg z]; show (if 0 = 6 + i then v else s.1 0) = _; rw [if_neg (by omega)]; rfl
    have e1 : sW (spT s (slotS side i) v) = sW s := by unfold slotS; rw [if_neg z]; show (if 1 = 6 + i then v else s.1 1) = _; rw [if_neg (by omega)]; rfl
    have e2 : ∀ r, r < 4 → sR (spT s (slotS side i) v) r = sR s r := fun r hr => by
      unfold slotS; rw [if_neg z]
      show (if 2 + r = 6 + i then v else s.1 (2 + r)) = _
      rw [if_neg (by omega)]; rfl
    have e3 : ∀ c, sC (spT s (slotS side i) v) c = if c = i then v else sC s c := fun c => by
      unfold slotS; rw [if_neg z]
      show (if 6 + c = 6 + i then v else s.1 (6 + c)) = _
      by_cases q : c = i
      · rw [if_pos q, if_pos (by omega)]
      · rw [if_neg q, if_neg (by omega)]; rfl
    have e4 : ∀ k, sP (spT s (slotS side i) v) k = sP s k := fun k => by
      unfold slotS; rw [if_neg z]
      show (if 11 + k = 6 + i then v else s.1 (11 + k)) = _
      rw [if_neg (by omega)]; rfl
    have e5 : sN (spT s (slotS side i) v) = sN s := by unfold sN; rw [e0, e1]
    refine ⟨_, rfl, ?_, fun b k h1 h2 h3 => by rw [mgi_msi, if_neg (by omega)], fun _ _ => rfl⟩
    unfold CS
    rw [e0, e1, e5]
    simp only [e3, e4]
    refine ⟨by rw [mgi_msi, if_neg (by omega)]; exact c0, by rw [mgi_msi, if_neg (by omega)]; exact c1, fun r hr => by rw [mgi_msi, if_neg (by omega), e2 r (by omega)]; exact c2 r hr, fun c hc => ?_, by rw [mgi_msi, if_neg (by omega)]; exact c4, by rw [mgi_msi, if_neg (by omega)]; exact c5, ?_⟩
    · rw [mgi_msi]
      by_cases q : c = i
      · rw [if_pos ⟨rfl, q⟩, if_pos q]
      · rw [if_neg (by omega), if_neg q]; exact c3 c hc
    · rw [mgi_msi, if_neg (by omega)]
      unfold plC
      rw [e5]
      exact c6
theorem cmask_and_bit {f : Nat → Bool} {n k : Nat} (hn : n ≤ 20) (hk : k < n) : nI (cmask f n) &&& nI (2 ^ (19 - k)) = 0 ↔ f k = false := by
  rw [fa_bit (by omega), cmask_bit hn]
  have h1 : 19 - k < 20 := by omega
  have h2 : 19 - (19 - k) = k := by omega
  simp [h1, h2, hk]
theorem pinOf_eq {a k : Nat} {s : Sh} {h : mH} (w : WS s) (cs : CS h a s) (hk : k < sN s) : x_X6_pinOf a (nI k) h = some (nI (sP s k)) := by
  have n20 := w.n20
  have p2 := w.2.2.2.2.2.2.1 k hk
  unfold x_X6_pinOf
  rw [bit_of k (by omega)]
  simp only [Option.bind_some]
  rw [cs.2.2.2.2.1, cs.2.2.2.2.2.1]
  rcases (by omega : sP s k = 0 ∨ sP s k = 1 ∨ sP s k = 2) with z | z | z
  · rw [if_neg (fun q => q ((cmask_and_bit n20.2 hk).mpr (by simp [z]))), z]
    rfl
  · rw [if_pos (fun q => by rw [cmask_and_bit n20.2 hk] at q; simp [z] at q), if_neg (fun q => by rw [cmask_and_bit n20.2 hk] at q; simp [z] at q), z]
    rfl
  · rw [if_pos (fun q => by rw [cmask_and_bit n20.2 hk] at q; simp [z] at q), if_pos ((cmask_and_bit n20.2 hk).mpr (by simp [z])), z]
    rfl
theorem cmask_set {f : Nat → Bool} {n k : Nat} (hn : n ≤ 20) (hk : k < n) : nI (cmask f n) ||| nI (2 ^ (19 - k)) = nI (cmask (fun j => f j || j == k) n) := by
  rw [fa_or]
  congr 1
  refine Nat.eq_of_testBit_eq fun i => ?_
  rw [fb_bit_set, cmask_bit hn, cmask_bit hn]
  by_cases c : i < 20
  · by_cases d : i = 19 - k
    · have e : 19 - i = k := by omega
      simp [c, d, e]
      rw [← d, e]
      simp [hk, c]
    · have e : ¬ 19 - i = k := by omega
      have e' : (19 - i == k) = false := by simp [e]
      simp [d, e']
  · have d : ¬ i = 19 - k := by omega
    simp [c, d]
theorem cmask_off {f : Nat → Bool} {n k : Nat} (hn : n ≤ 20) (hk : k < n) : nI (cmask f n) &&& (nI (2 ^ (19 - k)) ^^^ (-1)) = nI (cmask (fun j => f j && j != k) n) := by
  refine b_ext fun i hi => ?_
  rw [b_and, bt_neg _ hi, bt_nI _ _ hi, bt_nI _ _ hi, bt_nI _ _ hi, cmask_bit hn, cmask_bit hn, Nat.testBit_two_pow]
  by_cases c : i < 20
  · by_cases d : 19 - k = i
    · have e : 19 - i = k := by omega
      simp [d, e]
    · have e : ¬ 19 - i = k := by omega
      have e' : (19 - i != k) = true := by simp [e]
      simp [d, e']
  · simp [c]
theorem cmask_congr {f g : Nat → Bool} : ∀ {n : Nat}, (∀ k, k < n → f k = g k) → cmask f n = cmask g n
  | 0, _ => rfl
  | n + 1, h => by
    unfold cmask
    rw [cmask_congr (fun k hk => h k (by omega)), h n (by omega)]
theorem putPin_eq {a k v : Nat} {s : Sh} {h : mH} (w : WS s) (cs : CS h a s) (hk : k < sN s) (hv : v ≤ 2) : ∃ h', x_X6_putPin a (nI k) (nI v) h = some h' ∧ CS h' a (spT s (11 + k) v) ∧ fr3 a h h' := by
  have n20 := w.n20
  have h4 := w.2.1
  have w5 := w.2.2.2.1
  unfold x_X6_putPin
  rw [bit_of k (by omega)]
  simp only [Option.bind_some, mlet_eq]
  obtain ⟨c0, c1, c2, c3, c4, c5, c6⟩ := cs
  have e0 : sH (spT s (11 + k) v) = sH s := by show (if 0 = 11 + k then v else s.1 0) = _; rw [if_neg (by omega)]; rfl
  have e1 : sW (spT s (11 + k) v) = sW s := by show (if 1 = 11 + k then v else s.1 1) = _; rw [if_neg (by omega)]; rfl
  have e2 : ∀ r, r < 4 → sR (spT s (11 + k) v) r = sR s r := fun r hr => by
    show (if 2 + r = 11 + k then v else s.1 (2 + r)) = _
    rw [if_neg (by omega)]; rfl
  have e3 : ∀ c, c < 5 → sC (spT s (11 + k) v) c = sC s c := fun c hc => by
    show (if 6 + c = 11 + k then v else s.1 (6 + c)) = _
    rw [if_neg (by omega)]; rfl
  have e4 : ∀ j, sP (spT s (11 + k) v) j = if j = k then v else sP s j := fun j => by
    show (if 11 + j = 11 + k then v else s.1 (11 + j)) = _
    by_cases q : j = k
    · rw [if_pos q, if_pos (by omega)]
    · rw [if_neg q, if_neg (by omega)]; rfl
  have e5 : sN (spT s (11 + k) v) = sN s := by unfold sN; rw [e0, e1]
  have v0 : nI v = 0 ↔ v = 0 := by rw [show (0 : Int32) = nI 0 from rfl, nI_eq (by omega) (by decide)]
  have v1 : nI v = 1 ↔ v = 1 := by rw [show (1 : Int32) = nI 1 from rfl, nI_eq (by omega) (by decide)]
  refine ⟨_, rfl, ?_, fun b j h1 h2 h3 => by rw [mgi_msi, if_neg (by omega), mgi_msi, if_neg (by omega)], fun _ _ => rfl⟩
  unfold CS
  rw [e0, e1, e5]
  refine ⟨by rw [mgi_msi, if_neg (by omega), mgi_msi, if_neg (by omega)]; exact c0, by rw [mgi_msi, if_neg (by omega), mgi_msi, if_neg (by omega)]; exact c1, fun r hr => by rw [mgi_msi, if_neg (by omega), mgi_msi, if_neg (by omega), e2 r (by omega)]; exact c2 r hr, fun c hc => by rw [mgi_msi, if_neg (by omega), mgi_msi, if_neg (by omega), e3 c (by omega)]; exact c3 c hc, ?_, ?_, ?_⟩
  · rw [mgi_msi, if_neg (by omega), mgi_msi, if_pos ⟨rfl, rfl⟩, c4]
    by_cases z : v = 0
    · rw [if_neg (fun q => q (v0.mpr z)), cmask_off n20.2 hk]
      congr 1
      refine cmask_congr fun j hj => ?_
      rw [e4]
      by_cases q : j = k
      · simp [q, z]
      · simp [q]
    · rw [if_pos (fun q => z (v0.mp q)), cmask_set n20.2 hk]
      congr 1
      refine cmask_congr fun j hj => ?_
      rw [e4]
      by_cases q : j = k
      · simp [q, z]
      · simp [q]
  · have h5 : ∀ y, mgi (msi h a 4 y) a 5 = mgi h a 5 := fun y => by rw [mgi_msi, if_neg (by omega)]
    rw [mgi_msi, if_pos ⟨rfl, rfl⟩, h5, c5]
    by_cases z : v = 1
    · rw [if_neg (fun q => q (v1.mpr z)), cmask_set n20.2 hk]
      congr 1
      refine cmask_congr fun j hj => ?_
      rw [e4]
      by_cases q : j = k
      · simp [q, z]
      · simp [q]
    · rw [if_pos (fun q => z (v1.mp q)), cmask_off n20.2 hk]
      congr 1
      refine cmask_congr fun j hj => ?_
      rw [e4]
      by_cases q : j = k
      · simp [q, z]
      · simp [q]
  · rw [mgi_msi, if_neg (by omega), mgi_msi, if_neg (by omega)]
    unfold plC
    rw [e5]
    exact c6
theorem bc_cmask {f : Nat → Bool} {n : Nat} (hn : n ≤ 20) : bc (cmask f n) 20 = fb_ct f n := by
  unfold bc
  rw [← ct_rev _ 20]
  rw [show 20 = n + (20 - n) by omega, fb_ct_split]
  have z : fb_ct (fun k => (cmask f n).testBit (n + (20 - n) - 1 - (n + k))) (20 - n) = 0 := by
    rw [fb_ct_zero]
    intro k hk
    rw [cmask_bit hn]
    have : ¬ 19 - (n + (20 - n) - 1 - (n + k)) < n := by omega
    simp [this]
  rw [z]
  refine (Nat.add_zero _).trans (fb_ct_cong fun k hk => ?_)
  rw [cmask_bit hn]
  have h1 : n + (20 - n) - 1 - k < 20 := by omega
  have h2 : 19 - (n + (20 - n) - 1 - k) = k := by omega
  simp [h1, h2, hk]
def pinN (s : Sh) : Nat := fb_ct (fun k => sP s k != 0) (sN s)
theorem pinCount_eq {a : Nat} {s : Sh} {h : mH} (w : WS s) (cs : CS h a s) : x_X6_pinCount a h = some (nI (pinN s)) := by
  unfold x_X6_pinCount
  rw [cs.2.2.2.2.1, bcnt (cmask_lt w.n20.2) (by decide), bc_cmask w.n20.2]
  rfl
