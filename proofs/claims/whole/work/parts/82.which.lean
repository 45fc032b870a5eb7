/-! which, count -/
/-- the first of those below n, or none -/
def Fst (p : Nat → Bool) (n : Nat) (r : Int32) : Prop := (r = -9 ∧ ∀ j, j < n → p j = false) ∨ ∃ j, j < n ∧ p j = true ∧ r = nI j ∧ ∀ i, i < j → p i = false
def fsI (p : Nat → Bool) (n : Nat) : Int32 := if fa_first p n < n then nI (fa_first p n) else -9
theorem fsI_Fst (p : Nat → Bool) (n : Nat) : Fst p n (fsI p n) := by
  unfold fsI
  have h1 := fa_first_no p n
  by_cases c : fa_first p n < n
  · rw [if_pos c]
    exact Or.inr ⟨_, c, fa_first_yes p n c, rfl, h1⟩
  · rw [if_neg c]
    have := fa_first_le p n
    exact Or.inl ⟨rfl, fun j hj => h1 j (by omega)⟩
theorem Fst_one {p : Nat → Bool} {n : Nat} {r r' : Int32} (a : Fst p n r) (b : Fst p n r') : r = r' := by
  rcases a with ⟨a1, a2⟩ | ⟨j, a1, a2, a3, a4⟩ <;> rcases b with ⟨b1, b2⟩ | ⟨j', b1, b2, b3, b4⟩
  · rw [a1, b1]
  · rw [a2 j' b1] at b2; cases b2
  · rw [b2 j a1] at a2; cases a2
  · have : j = j' := by
      rcases Nat.lt_trichotomy j j' with q | q | q
      · rw [b4 j q] at a2; cases a2
      · exact q
      · rw [a4 j' q] at b2; cases b2
    rw [a3, b3, this]
theorem fsI_eq {p : Nat → Bool} {n : Nat} {r : Int32} (a : Fst p n r) : r = fsI p n := Fst_one a (fsI_Fst p n)
theorem fsI_succ (p : Nat → Bool) (n : Nat) (hn : n < 2 ^ 31) : fsI p (n + 1) = if fsI p n = -9 then (if p n then nI n else -9) else fsI p n := by
  refine (fsI_eq ?_).symm
  rcases fsI_Fst p n with ⟨a1, a2⟩ | ⟨j, a1, a2, a3, a4⟩
  · rw [a1, if_pos rfl]
    by_cases c : p n = true
    · rw [if_pos c]; exact Or.inr ⟨n, by omega, c, rfl, a2⟩
    · rw [if_neg c]
      refine Or.inl ⟨rfl, fun j hj => ?_⟩
      by_cases d : j = n
      · subst d; simpa using c
      · exact a2 j (by omega)
  · rw [a3, if_neg (nI_n9 (by omega))]
    exact Or.inr ⟨j, by omega, a2, rfl, a4⟩
/-- whether an answer is as it was seen -/
def agr (s : Sh) (se : List (Nat × Bool)) (q : Nat) : Bool := se.all fun e => (decide (e.1 < sN s) && cb s q e.1) == e.2
theorem seen_and {s : Sh} (w : WS s) {se : List (Nat × Bool)} (h20 : ∀ e ∈ se, e.1 < 20) {q : Nat} (hq : q < 2 ^ sN s) : ((shl s q &&& orAll (se.map fun e => if e.2 then nI (2 ^ (19 - e.1)) else 0)) = orAll (se.map fun e => if e.2 then nI (2 ^ (19 - e.1)) else 0) ∧ (shl s q &&& orAll (se.map fun e => if e.2 then 0 else nI (2 ^ (19 - e.1)))) = 0) ↔ agr s se q = true := by
  have bq : ∀ e ∈ se, bt (shl s q) (19 - e.1) = (decide (e.1 < sN s) && cb s q e.1) := fun e he => by
    have h1 := h20 e he
    rw [shl_bit w (by omega) hq]
    have h2 : 19 - e.1 < 20 := by omega
    have h3 : 19 - (19 - e.1) = e.1 := by omega
    simp [h2, h3]
  rw [and_eq_iff]
  unfold agr
  rw [List.all_eq_true]
  constructor
  · rintro ⟨a1, a2⟩ e he
    have h1 := h20 e he
    rw [← bq e he]
    by_cases c : e.2 = true
    · have : bt (shl s q) (19 - e.1) = true := by
        refine a1 _ (by omega) ?_
        rw [bt_orAll, List.any_eq_true]
        refine ⟨_, List.mem_map.mpr ⟨e, he, rfl⟩, ?_⟩
        rw [if_pos c, bt_nI _ _ (by omega), Nat.testBit_two_pow]
        simp
      rw [this, c]; rfl
    · have c' : e.2 = false := by simpa using c
      have := congrArg (fun x => bt x (19 - e.1)) a2
      simp only [b_and, b_0] at this
      have h3 : bt (orAll (se.map fun e => if e.2 then 0 else nI (2 ^ (19 - e.1)))) (19 - e.1) = true := by
        rw [bt_orAll, List.any_eq_true]
        refine ⟨_, List.mem_map.mpr ⟨e, he, rfl⟩, ?_⟩
        rw [if_neg c, bt_nI _ _ (by omega), Nat.testBit_two_pow]
        simp
      rw [h3, Bool.and_true] at this
      rw [this, c']; rfl
  · intro hA
    refine ⟨fun i hi hb => ?_, b_ext fun i hi => ?_⟩
    · rw [bt_orAll, List.any_eq_true] at hb
      obtain ⟨x, hx, hxb⟩ := hb
      obtain ⟨e, he, rfl⟩ := List.mem_map.mp hx
      by_cases c : e.2 = true
      · rw [if_pos c, bt_nI _ _ hi, Nat.testBit_two_pow] at hxb
        have : 19 - e.1 = i := by simpa using hxb
        subst this
        have := hA e he
        rw [← bq e he, c] at this
        simpa using this
      · rw [if_neg c, b_0] at hxb; cases hxb
    · rw [b_and, b_0]
      by_cases hb : bt (orAll (se.map fun e => if e.2 then 0 else nI (2 ^ (19 - e.1)))) i = true
      · rw [hb, Bool.and_true]
        rw [bt_orAll, List.any_eq_true] at hb
        obtain ⟨x, hx, hxb⟩ := hb
        obtain ⟨e, he, rfl⟩ := List.mem_map.mp hx
        by_cases c : e.2 = true
        · rw [if_pos c, b_0] at hxb; cases hxb
        · rw [if_neg c, bt_nI _ _ hi, Nat.testBit_two_pow] at hxb
          have : 19 - e.1 = i := by simpa using hxb
          subst this
          have := hA e he
          rw [← bq e he] at this
          have c' : e.2 = false := by simpa using c
          rw [c'] at this
          simpa using this
      · have : bt (orAll (se.map fun e => if e.2 then 0 else nI (2 ^ (19 - e.1)))) i = false := by simpa using hb
        rw [this, Bool.and_false]
def whP (z : St) (j : Nat) : Bool := agr z.2.1 z.2.2.2.2.1 ((ans z.2.1).getD j 0)
theorem agr_take (s : Sh) (l : List (Nat × Bool)) (q : Nat) {j : Nat} {e : Nat × Bool} (he : l[j]? = some e) : agr s (l.take (j + 1)) q = (agr s (l.take j) q && ((decide (e.1 < sN s) && cb s q e.1) == e.2)) := by
  unfold agr
  rw [List.take_succ, he, List.all_append]
  simp
theorem agrees_eq {N q : Nat} {z : St} {h : mH} (hN : 40 < N) (hw : WF z) (hm : IM h z) : x_X9_agrees N (nI q) h = some (if agr z.2.1 z.2.2.2.2.1 q then 1 else 0) := by
  have w := hw.2.1.1
  have n20 := w.n20
  have sl := hw.2.2.2.2.1
  have s20 := hw.2.2.2.2.2
  obtain ⟨m1, m2⟩ := hm.2.2.2.2.1
  have ms := hm.2.1
  unfold x_X9_agrees
  refine lpV (fun f (x : Int32) i => x_X9_agrees_4 N (nI q) h f x i) (fun j => b2i (agr z.2.1 (z.2.2.2.2.1.take j) q)) z.2.2.2.2.1.length _ (fun f j hj => ?_) (fun f => ?_) (by omega)
  · show x_X9_agrees_4 N (nI q) h (f + 1) _ (nI j) = x_X9_agrees_4 N (nI q) h f _ (nI (j + 1))
    obtain ⟨e, he⟩ : ∃ e, z.2.2.2.2.1[j]? = some e := ⟨_, List.getElem?_eq_getElem hj⟩
    obtain ⟨g1, g2⟩ := m2 j e he
    have e20 := s20 e (List.mem_of_getElem? he)
    rw [x_X9_agrees_4_s, m1, if_neg (nI_ge hj (by omega)), mck_ok (vp_in_nI (by omega) (by decide)), cells_eq ms, nI_clamp (by omega), g1]
    simp only [Option.bind_some]
    rw [agr_take _ _ _ he]
    have mk6 : ∀ k : Option Int32, mck (nI j) 6 k = k := fun k => mck_ok (vp_in_nI (by omega) (by decide))
    unfold x_X9_agrees_49 x_X9_agrees_50 x_X9_agrees_80 x_X9_agrees_81
    rw [mk6, nI_clamp (by omega), g2, nI_1]
    by_cases c : e.1 < sN z.2.1
    · rw [if_neg (nI_ge c (by omega)), isYes_eq ms w _ _ c]
      simp only [Option.bind_some, mlet_eq]
      rw [mk6]
      cases agr z.2.1 (z.2.2.2.2.1.take j) q <;> cases cb z.2.1 q e.1 <;> cases e.2 <;> simp [c, b2i, mk6]
    · rw [if_pos (nI_le (by omega) (by omega))]
      simp only [mlet_eq]
      cases agr z.2.1 (z.2.2.2.2.1.take j) q <;> cases e.2 <;> simp [c, b2i, mk6]
  · show x_X9_agrees_4 N (nI q) h (f + 1) _ (nI z.2.2.2.2.1.length) = _
    rw [x_X9_agrees_4_s, m1, if_pos (nI_le (Nat.le_refl _) (by omega)), List.take_length]
    unfold mzc
    cases agr z.2.1 z.2.2.2.2.1 q <;> simp [b2i]
theorem S_which {N t : Nat} {h : mH} {z : St} (hN : 1000 < N) (hw : WF z) (hc : IC t h z) (hm : IM h z) (a : Int32) : GW t (xcR (x_X8_which N a h) h (fun h1 => x_X9_which N a h1)) := by
  have w := hw.2.1.1
  have al := hc.2.2.1
  have l310 := ans_310 w
  obtain ⟨c1, c2, c3⟩ := hc.2.2.2.2.2.2.2.2.1
  rcases side_cases a with ⟨v, hv, rfl⟩ | ⟨n0, n1, na⟩
  · obtain ⟨h', e', l', i', f'⟩ := M_list (by omega : 400 < N) hw (hm.thr 0)
    refine ok_R (r := if ¬ nI v = 0 then fsI (whP z) (ans z.2.1).length else nI (fb_ct (whP z) (ans z.2.1).length)) hc hm hw ?_ ⟨h', ?_, i', (frM_i (by decide)).trans f'.frM⟩
    · have hd : x_X8_which N (nI v) h = x_X8_which_20 N (nI v) h N (nI 0) (-9) (nI 0) := by
        unfold x_X8_which x_X8_which_12
        rcases (by omega : v = 0 ∨ v = 1) with q | q
        · subst q; rw [if_pos (by decide)]; rfl
        · subst q; rw [if_neg (by decide), if_pos (by decide)]; rfl
      rw [hd]
      refine lpV (fun f (x : Int32 × Int32) i => x_X8_which_20 N (nI v) h f x.1 x.2 i) (fun j => (nI (fb_ct (whP z) j), fsI (whP z) j)) (ans z.2.1).length _ (fun f j hj => ?_) (fun f => ?_) (by omega)
      · show x_X8_which_20 N (nI v) h (f + 1) (nI (fb_ct (whP z) j)) (fsI (whP z) j) (nI j) = x_X8_which_20 N (nI v) h f (nI (fb_ct (whP z) (j + 1))) (fsI (whP z) (j + 1)) (nI (j + 1))
        have hq := ans_lt (getD_mem hj)
        have sa := seen_and w hw.2.2.2.2.2 hq
        rw [x_X8_which_20_s, al.2.2.1, if_neg (nI_ge hj (by omega)), mck_ok (vp_in_nI (by omega) (by decide)), nI_clamp (by omega), mlet_eq, al.2.2.2.1 j hj, c2, c3]
        unfold x_X8_which_90
        rw [fsI_succ _ _ (by omega), fb_ct_succ, nI_1]
        by_cases q : whP z j = true
        · obtain ⟨s1, s2⟩ := sa.mpr q
          rw [if_neg (fun r => r s1), if_neg (fun r => r s2), mlet_eq, if_pos q, if_pos q, nI_1]
          congr 1
          by_cases u : fsI (whP z) j = -9
          · rw [if_neg (fun r => r u), if_pos u]
          · rw [if_pos u, if_neg u]
        · have q' : ¬ agr z.2.1 z.2.2.2.2.1 ((ans z.2.1).getD j 0) = true := q
          have e1 : (if fsI (whP z) j = -9 then (if whP z j = true then nI j else -9) else fsI (whP z) j) = fsI (whP z) j := by
            by_cases u : fsI (whP z) j = -9
            · rw [if_pos u, if_neg q, u]
            · rw [if_neg u]
          rw [e1, if_neg q, Nat.add_zero]
          by_cases s1 : (shl z.2.1 ((ans z.2.1).getD j 0) &&& orAll (z.2.2.2.2.1.map fun e => if e.2 then nI (2 ^ (19 - e.1)) else 0)) = orAll (z.2.2.2.2.1.map fun e => if e.2 then nI (2 ^ (19 - e.1)) else 0)
          · rw [if_neg (fun r => r s1), if_pos (fun s2 => q' (sa.mp ⟨s1, s2⟩))]
            rfl
          · rw [if_pos s1]
            rfl
      · show x_X8_which_20 N (nI v) h (f + 1) _ _ (nI (ans z.2.1).length) = _
        rw [x_X8_which_20_s, al.2.2.1, if_pos (nI_le (Nat.le_refl _) (by omega))]
    · unfold x_X9_which
      simp only [mlet_eq]
      rw [show (1 : Int64) = (nI 1).toInt64 by decide, inN _ (by decide), if_pos ⟨v, hv, rfl⟩]
      simp only [Option.bind_some]
      rw [if_pos (by decide), e']
      simp only [Option.bind_some]
      rw [l'.1]
      have key : ∀ (k f c : Nat) (r : Int32), k ≤ (ans z.2.1).length → k < f → c + fb_ct (whP z) k = fb_ct (whP z) (ans z.2.1).length → ((r = -9 ∧ ∀ j, k ≤ j → j < (ans z.2.1).length → whP z j = false) ∨ ∃ j, k ≤ j ∧ j < (ans z.2.1).length ∧ whP z j = true ∧ r = nI j ∧ ∀ i, k ≤ i → i < j → whP z i = false) → x_X9_which_40 N (nI v) f (nI c) r (nI k - 1) h' = some (if ¬ nI v = 0 then fsI (whP z) (ans z.2.1).length else nI (fb_ct (whP z) (ans z.2.1).length), h') := by
        intro k
        induction k with
        | zero =>
          intro f c r h1 h2 h3 h4
          obtain ⟨f, rfl⟩ : ∃ e, f = e + 1 := ⟨f - 1, by omega⟩
          rw [x_X9_which_40_s, if_pos (by decide)]
          have e1 : r = fsI (whP z) (ans z.2.1).length := by
            refine fsI_eq ?_
            rcases h4 with ⟨u1, u2⟩ | ⟨j, u1, u2, u3, u4, u5⟩
            · exact Or.inl ⟨u1, fun j hj => u2 j (by omega) hj⟩
            · exact Or.inr ⟨j, u2, u3, u4, fun i hi => u5 i (by omega) hi⟩
          have e2 : c = fb_ct (whP z) (ans z.2.1).length := by rw [← h3]; rfl
          rw [e1, e2]
        | succ k ih =>
          intro f c r h1 h2 h3 h4
          obtain ⟨f, rfl⟩ : ∃ e, f = e + 1 := ⟨f - 1, by omega⟩
          rw [x_X9_which_40_s, nI_pred, if_neg (nI_pos (by omega)), mck_ok (vp_in_nI (by omega) (by decide)), nI_clamp (by omega), l'.2 k (by omega), agrees_eq (by omega) hw i']
          simp only [Option.bind_some]
          unfold x_X9_which_65
          rw [show nI k + (-1 : Int32) = nI k - 1 from by rw [Int32.sub_eq_add_neg]]
          rw [fb_ct_succ] at h3
          by_cases q : whP z k = true
          · have q' : agr z.2.1 z.2.2.2.2.1 ((ans z.2.1).getD k 0) = true := q
            rw [q', if_neg (by decide), nI_1]
            rw [if_pos q] at h3
            refine ih f (c + 1) (nI k) (by omega) (by omega) (by omega) (Or.inr ⟨k, Nat.le_refl _, by omega, q, rfl, fun i a b => by omega⟩)
          · have q' : agr z.2.1 z.2.2.2.2.1 ((ans z.2.1).getD k 0) = false := Bool.eq_false_iff.mpr q
            rw [q', if_pos (by decide)]
            rw [if_neg q] at h3
            refine ih f c r (by omega) (by omega) (by omega) ?_
            rcases h4 with ⟨u1, u2⟩ | ⟨j, u1, u2, u3, u4, u5⟩
            · refine Or.inl ⟨u1, fun j a b => ?_⟩
              by_cases d : j = k
              · rw [d]; exact q'
              · exact u2 j (by omega) b
            · refine Or.inr ⟨j, by omega, u2, u3, u4, fun i a b => ?_⟩
              by_cases d : i = k
              · rw [d]; exact q'
              · exact u5 i (by omega) b
      exact key _ N 0 (-9) (Nat.le_refl _) (by omega) (by omega) (Or.inl ⟨rfl, fun j a b => by omega⟩)
  · refine ok_R (r := -2) hc hm hw ?_ ⟨_, ?_, hm.thr 0, frM_i (by decide)⟩
    · unfold x_X8_which
      rw [if_neg n0, if_neg n1]
    · unfold x_X9_which
      simp only [mlet_eq]
      rw [show (1 : Int64) = (nI 1).toInt64 by decide, inN _ (by decide), if_neg na]
      simp only [Option.bind_some]
      rw [if_neg (by decide)]
