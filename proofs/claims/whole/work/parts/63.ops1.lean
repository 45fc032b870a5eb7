/-! text, seen, seed -/
theorem IM.text {h h' : mH} {z : St} {tx : List Int32} (m : IM h z) (e : ∀ a, a ≠ 82 → a ≠ 83 → ∀ k, mgi h' a k = mgi h a k) (e2 : ∀ k, k ≠ 0 → k ≠ 2 → mgi h' 82 k = mgi h 82 k) (el : ∀ k, mgl h' 82 k = mgl h 82 k) (t1 : mgi h' 82 2 = nI tx.length) (t2 : ∀ k, k < tx.length → mgi h' 83 k = tx.getD k 0) : IM h' (tx, z.2) := by
  obtain ⟨-, b, ⟨c1, c2⟩, d, ⟨f1, f2⟩, g⟩ := m
  exact ⟨⟨t1, t2⟩, b.congr (e 85 (by decide) (by decide)), ⟨by rw [e2 7 (by decide) (by decide)]; exact c1, fun j s hs => (c2 j s hs).congr (e 87 (by decide) (by decide))⟩, fun i hi => ⟨by rw [e 89 (by decide) (by decide)]; exact (d i hi).1, fun s hs => ((d i hi).2 s hs).congr (e 88 (by decide) (by decide))⟩, ⟨by rw [e2 10 (by decide) (by decide)]; exact f1, fun j q hq => by rw [e 90 (by decide) (by decide), e 91 (by decide) (by decide)]; exact f2 j q hq⟩, by rw [el]; exact g⟩
theorem IM.seen {h h' : mH} {z : St} {se : List (Nat × Bool)} (m : IM h z) (e : ∀ a, a ≠ 82 → a ≠ 90 → a ≠ 91 → ∀ k, mgi h' a k = mgi h a k) (e2 : ∀ k, k ≠ 0 → k ≠ 10 → mgi h' 82 k = mgi h 82 k) (el : ∀ k, mgl h' 82 k = mgl h 82 k) (t1 : mgi h' 82 10 = nI se.length) (t2 : ∀ j q, se[j]? = some q → mgi h' 90 j = nI q.1 ∧ mgi h' 91 j = if q.2 then 1 else 0) : IM h' (z.1, z.2.1, z.2.2.1, z.2.2.2.1, se, z.2.2.2.2.2) := by
  obtain ⟨⟨a1, a2⟩, b, ⟨c1, c2⟩, d, -, g⟩ := m
  exact ⟨⟨by rw [e2 2 (by decide) (by decide)]; exact a1, fun k hk => by rw [e 83 (by decide) (by decide) (by decide)]; exact a2 k hk⟩, b.congr (e 85 (by decide) (by decide) (by decide)), ⟨by rw [e2 7 (by decide) (by decide)]; exact c1, fun j s hs => (c2 j s hs).congr (e 87 (by decide) (by decide) (by decide))⟩, fun i hi => ⟨by rw [e 89 (by decide) (by decide) (by decide)]; exact (d i hi).1, fun s hs => ((d i hi).2 s hs).congr (e 88 (by decide) (by decide) (by decide))⟩, ⟨t1, t2⟩, by rw [el]; exact g⟩
/-- 'thrown' and the model's scratch cells count nowhere -/
theorem IM.scr {h h' : mH} {z : St} (m : IM h z) (e : ∀ a, (a = 83 ∨ a = 85 ∨ a = 87 ∨ a = 88 ∨ a = 89 ∨ a = 90 ∨ a = 91) → ∀ k, mgi h' a k = mgi h a k) (e2 : ∀ k, (k = 2 ∨ k = 7 ∨ k = 10) → mgi h' 82 k = mgi h 82 k) (el : ∀ k, mgl h' 82 k = mgl h 82 k) : IM h' z := by
  obtain ⟨⟨a1, a2⟩, b, ⟨c1, c2⟩, d, ⟨f1, f2⟩, g⟩ := m
  exact ⟨⟨by rw [e2 2 (by simp)]; exact a1, fun k hk => by rw [e 83 (by simp)]; exact a2 k hk⟩, b.congr (e 85 (by simp)), ⟨by rw [e2 7 (by simp)]; exact c1, fun j s hs => (c2 j s hs).congr (e 87 (by simp))⟩, fun i hi => ⟨by rw [e 89 (by simp)]; exact (d i hi).1, fun s hs => ((d i hi).2 s hs).congr (e 88 (by simp))⟩, ⟨by rw [e2 10 (by simp)]; exact f1, fun j q hq => by rw [e 90 (by simp), e 91 (by simp)]; exact f2 j q hq⟩, by rw [el]; exact g⟩
theorem IM.thr {h : mH} {z : St} (m : IM h z) (v : Int32) : IM (msi h 82 0 v) z := m.scr (fun a ha k => by rw [mgi_msi, if_neg (by omega)]) (fun k hk => by rw [mgi_msi, if_neg (by omega)]) (fun k => rfl)
theorem IC.text {t : Nat} {h h' : mH} {z : St} {tx : List Int32} (m : IC t h z) (e : ∀ a, a ≠ 15 → a ≠ 16 → ∀ k, mgi h' a k = mgi h a k) (el : ∀ a k, mgl h' a k = mgl h a k) (t1 : mgi h' 15 1 = nI tx.length) (t2 : ∀ k, k < tx.length → mgi h' 16 k = tx.getD k 0) : IC t h' (tx, z.2) := by
  obtain ⟨-, b, c, ⟨ed, d1, d2, e', d3, d4⟩, f, g, ⟨n, n1, n2, n3, n4⟩, k, ⟨l1, l2, l3⟩, o⟩ := m
  refine ⟨⟨t1, t2⟩, b.congr (e 2 (by decide) (by decide)) (e 3 (by decide) (by decide)) (e 4 (by decide) (by decide)), c.congr (e 5 (by decide) (by decide)) (e 6 (by decide) (by decide)) (e 7 (by decide) (by decide)) (el 5), ⟨ed, d1, by rw [e 5 (by decide) (by decide)]; exact d2, e', d3, by rw [e 67 (by decide) (by decide)]; exact d4⟩, f.congr (e 67 (by decide) (by decide)) (e 68 (by decide) (by decide)) (e 5 (by decide) (by decide) 4), ?_, ⟨n, n1, by rw [e 20 (by decide) (by decide)]; exact n2, by rw [e 20 (by decide) (by decide)]; exact n3, fun j s hs => (n4 j s hs).congr (e _ (by omega) (by omega)) (e _ (by omega) (by omega)) (e _ (by omega) (by omega))⟩, fun i hi => ⟨by rw [e 75 (by decide) (by decide)]; exact (k i hi).1, fun s hs => ((k i hi).2 s hs).congr (e _ (by omega) (by omega)) (e _ (by omega) (by omega)) (e _ (by omega) (by omega))⟩, ⟨by rw [e 0 (by decide) (by decide)]; exact l1, by rw [e 0 (by decide) (by decide)]; exact l2, by rw [e 0 (by decide) (by decide)]; exact l3⟩, by rw [el]; exact o⟩
  rcases g with g | ⟨s, g1, g2⟩
  · exact Or.inl (by rw [el]; exact g)
  · exact Or.inr ⟨s, g1, g2.congr (e 12 (by decide) (by decide)) (e 13 (by decide) (by decide)) (e 14 (by decide) (by decide)) (el 12)⟩
theorem IC.seen {t : Nat} {h h' : mH} {z : St} {se : List (Nat × Bool)} (m : IC t h z) (e : ∀ a, a ≠ 0 → ∀ k, mgi h' a k = mgi h a k) (el : ∀ a k, mgl h' a k = mgl h a k) (t1 : mgi h' 0 11 = nI se.length ∧ mgi h' 0 9 = orAll (se.map fun e => if e.2 then nI (2 ^ (19 - e.1)) else 0) ∧ mgi h' 0 10 = orAll (se.map fun e => if e.2 then 0 else nI (2 ^ (19 - e.1)))) : IC t h' (z.1, z.2.1, z.2.2.1, z.2.2.2.1, se, z.2.2.2.2.2) := by
  obtain ⟨⟨a1, a2⟩, b, c, ⟨ed, d1, d2, e', d3, d4⟩, f, g, ⟨n, n1, n2, n3, n4⟩, k, -, o⟩ := m
  refine ⟨⟨by rw [e 15 (by decide)]; exact a1, fun k hk => by rw [e 16 (by decide)]; exact a2 k hk⟩, b.congr (e 2 (by decide)) (e 3 (by decide)) (e 4 (by decide)), c.congr (e 5 (by decide)) (e 6 (by decide)) (e 7 (by decide)) (el 5), ⟨ed, d1, by rw [e 5 (by decide)]; exact d2, e', d3, by rw [e 67 (by decide)]; exact d4⟩, f.congr (e 67 (by decide)) (e 68 (by decide)) (e 5 (by decide) 4), ?_, ⟨n, n1, by rw [e 20 (by decide)]; exact n2, by rw [e 20 (by decide)]; exact n3, fun j s hs => (n4 j s hs).congr (e _ (by omega)) (e _ (by omega)) (e _ (by omega))⟩, fun i hi => ⟨by rw [e 75 (by decide)]; exact (k i hi).1, fun s hs => ((k i hi).2 s hs).congr (e _ (by omega)) (e _ (by omega)) (e _ (by omega))⟩, t1, by rw [el]; exact o⟩
  rcases g with g | ⟨s, g1, g2⟩
  · exact Or.inl (by rw [el]; exact g)
  · exact Or.inr ⟨s, g1, g2.congr (e 12 (by decide)) (e 13 (by decide)) (e 14 (by decide)) (el 12)⟩
/-- write -/
def z_write (p : Int32) (z : St) : St := if 0 ≤ p ∧ p ≤ 255 ∧ z.1.length < 40 then (z.1 ++ [p], z.2) else z
def r_write (p : Int32) (z : St) : Int32 := if 0 ≤ p ∧ p ≤ 255 then (if z.1.length < 40 then nI (z.1.length + 1) else -4) else -2
theorem getD_app {l : List Int32} {p : Int32} {k : Nat} (hk : k < (l ++ [p]).length) : (l ++ [p]).getD k 0 = if k = l.length then p else l.getD k 0 := by
  rw [List.length_append] at hk
  simp only [List.length_cons, List.length_nil] at hk
  by_cases e : k = l.length
  · subst e; simp
  · rw [if_neg e]
    have : k < l.length := by omega
    simp [List.getD, List.getElem?_append_left this]
theorem C_write {t : Nat} {h : mH} {z : St} (p : Int32) (hw : WF z) (m : IC t h z) : okC t z h (x_X8_write p h) (r_write p z) (z_write p z) := by
  have hl := hw.1
  have a1 := m.1.1
  have a2 := m.1.2
  unfold x_X8_write r_write z_write
  by_cases c1 : p < 0
  · have n1 : ¬ 0 ≤ p := by rw [fa_lt] at c1; rw [fa_le]; simp at c1 ⊢; omega
    rw [if_pos c1]
    simp only [n1, false_and, if_false]
    exact ⟨h, rfl, m.next, frC.rfl⟩
  · have n1 : 0 ≤ p := fa_of_nlt c1
    rw [if_neg c1]
    by_cases c2 : p ≤ 255
    · rw [if_pos c2]
      unfold x_X4_append
      by_cases c3 : z.1.length < 40
      · have e3 : mgi h 15 1 < 40 := by rw [a1]; exact nI_lt c3 (by decide)
        rw [if_pos e3, a1, mck_ok (vp_in_nI c3 (by decide)), nI_clamp (by omega)]
        simp only [n1, c2, c3, and_self, if_true, mlet_eq]
        refine ⟨msi (msi h 16 z.1.length p) 15 1 (nI (z.1.length + 1)), ?_, IC.next (m.text (h' := msi (msi h 16 z.1.length p) 15 1 (nI (z.1.length + 1))) (tx := z.1 ++ [p]) ?_ (fun _ _ => rfl) ?_ ?_), ?_⟩
        · simp [mgi_msi, a1, nI_1]
        · intro a h1 h2 k
          rw [mgi_msi, if_neg (by omega), mgi_msi, if_neg (by omega)]
        · simp [mgi_msi]
        · intro k hk
          rw [getD_app hk, mgi_msi, if_neg (by omega), mgi_msi]
          by_cases e : k = z.1.length
          · simp [e]
          · simp only [e, and_false, if_false]
            exact a2 k (by simp at hk; omega)
        · exact (frC_i (by decide)).trans (frC_i (by decide))
      · have e3 : ¬ mgi h 15 1 < 40 := by rw [a1]; exact nI_nlt (b := 40) (by omega) (by omega)
        rw [if_neg e3]
        simp only [n1, c2, c3, and_self, and_false, if_true, if_false]
        exact ⟨h, rfl, m.next, frC.rfl⟩
    · rw [if_neg c2]
      simp only [c2, false_and, and_false, if_false]
      exact ⟨h, rfl, m.next, frC.rfl⟩
theorem M_write {h : mH} {z : St} (p : Int32) (hw : WF z) (m : IM h z) : okM z h (x_X9_write p h) (r_write p z) (z_write p z) := by
  have hl := hw.1
  have a1 := m.1.1
  have a2 := m.1.2
  unfold x_X9_write r_write z_write
  rw [show (0 : Int64) = (0 : Int32).toInt64 by decide, show (255 : Int64) = (255 : Int32).toInt64 by decide, xin32]
  simp only [mlet_eq, Option.bind_some]
  have F0 : frM h (msi h 82 0 0) := frM_i (by decide)
  by_cases c : 0 ≤ p ∧ p ≤ 255
  · rw [if_pos c, if_pos c]
    have e1 : mgi (msi h 82 0 0) 82 2 = nI z.1.length := by simp [mgi_msi, a1]
    rw [e1]
    by_cases c3 : z.1.length < 40
    · have n3 : ¬ nI z.1.length = 40 := by rw [show (40 : Int32) = nI 40 from rfl, nI_eq (by omega) (by decide)]; omega
      rw [if_pos (by decide), if_pos n3, mck_ok (vp_in_nI c3 (by decide)), nI_clamp (by omega)]
      simp only [c, c3, and_self, if_true]
      refine ⟨msi (msi (msi h 82 0 0) 83 z.1.length p) 82 2 (nI (z.1.length + 1)), ?_, m.text (tx := z.1 ++ [p]) ?_ ?_ (fun _ => rfl) ?_ ?_, ?_⟩
      · simp [mgi_msi, a1, nI_1]
      · intro a h1 h2 k
        rw [mgi_msi, if_neg (by omega), mgi_msi, if_neg (by omega), mgi_msi, if_neg (by omega)]
      · intro k h1 h2
        rw [mgi_msi, if_neg (by omega), mgi_msi, if_neg (by omega), mgi_msi, if_neg (by omega)]
      · simp [mgi_msi]
      · intro k hk
        rw [getD_app hk, mgi_msi, if_neg (by omega), mgi_msi]
        by_cases e : k = z.1.length
        · simp [e]
        · simp only [e, and_false, if_false]
          rw [mgi_msi, if_neg (by omega)]
          exact a2 k (by simp at hk; omega)
      · exact F0.trans ((frM_i (by decide)).trans (frM_i (by decide)))
    · have n3 : nI z.1.length = 40 := by rw [show (40 : Int32) = nI 40 from rfl, nI_eq (by omega) (by decide)]; omega
      rw [if_pos (by decide), if_neg (by rw [n3]; simp)]
      simp only [c3, and_false, if_false]
      exact ⟨_, rfl, m.thr 0, F0⟩
  · rw [if_neg c, if_neg c]
    have c' : ¬ (0 ≤ p ∧ p ≤ 255 ∧ z.1.length < 40) := fun q => c ⟨q.1, q.2.1⟩
    rw [if_neg c', if_neg (by simp)]
    exact ⟨_, rfl, m.thr 0, F0⟩
theorem WF_write {z : St} (p : Int32) (hw : WF z) : WF (z_write p z) := by
  unfold z_write
  split
  · rename_i c
    exact ⟨by simp; omega, hw.2⟩
  · exact hw
/-- wipe -/
theorem C_wipe {t : Nat} {h : mH} {z : St} (m : IC t h z) : okC t z h (x_X8_wipe h) (nI z.1.length) ([], z.2) := by
  refine ⟨msi h 15 1 0, ?_, IC.next (m.text (h' := msi h 15 1 0) (tx := []) ?_ (fun _ _ => rfl) ?_ ?_), frC_i (by decide)⟩
  · unfold x_X8_wipe; simp only [mlet_eq]; rw [m.1.1]
  · intro a h1 h2 k; rw [mgi_msi, if_neg (by omega)]
  · simp [mgi_msi, nI_0]
  · intro k hk; simp at hk
theorem M_wipe {h : mH} {z : St} (m : IM h z) : okM z h (x_X9_wipe h) (nI z.1.length) ([], z.2) := by
  refine ⟨msi (msi h 82 0 0) 82 2 0, ?_, m.text (tx := []) ?_ ?_ (fun _ => rfl) ?_ ?_, (frM_i (by decide)).trans (frM_i (by decide))⟩
  · unfold x_X9_wipe; simp only [mlet_eq]; rw [mgi_msi, if_neg (by decide), m.1.1]
  · intro a h1 h2 k; rw [mgi_msi, if_neg (by omega), mgi_msi, if_neg (by omega)]
  · intro k h1 h2; rw [mgi_msi, if_neg (by omega), mgi_msi, if_neg (by omega)]
  · simp [mgi_msi, nI_0]
  · intro k hk; simp at hk
/-- seed -/
theorem C_seed {t : Nat} {h : mH} {z : St} (v : Int64) (m : IC t h z) : okC t z h (x_X8_seed v h) z.2.2.2.2.2 (z.1, z.2.1, z.2.2.1, z.2.2.2.1, z.2.2.2.2.1, v) := by
  refine ⟨msl h 0 12 v, ?_, IC.next ?_, frC_l (by decide)⟩
  · unfold x_X8_seed; simp only [mlet_eq]; rw [m.2.2.2.2.2.2.2.2.2]
  · obtain ⟨a, b, c, d, f, g, n, k, l, o⟩ := m
    refine ⟨a, b, c.congr (fun _ => rfl) (fun _ => rfl) (fun _ => rfl) (fun k => by rw [mgl_msl, if_neg (by omega)]), d, f, ?_, n, k, l, by rw [mgl_msl, if_pos ⟨rfl, rfl⟩]⟩
    rcases g with g | ⟨s, g1, g2⟩
    · exact Or.inl (by rw [mgl_msl, if_neg (by omega)]; exact g)
    · exact Or.inr ⟨s, g1, g2.congr (fun _ => rfl) (fun _ => rfl) (fun _ => rfl) (fun k => by rw [mgl_msl, if_neg (by omega)])⟩
theorem M_seed {h : mH} {z : St} (v : Int64) (m : IM h z) : okM z h (x_X9_seed v h) z.2.2.2.2.2 (z.1, z.2.1, z.2.2.1, z.2.2.2.1, z.2.2.2.2.1, v) := by
  refine ⟨msl (msi h 82 0 0) 82 13 v, ?_, ?_, (frM_i (by decide)).trans (frM_l (by decide))⟩
  · unfold x_X9_seed; simp only [mlet_eq]; rw [mgl_msi, m.2.2.2.2.2]
  · obtain ⟨a, b, c, d, f, g⟩ := m.thr 0
    exact ⟨a, b, c, d, f, by rw [mgl_msl, if_pos ⟨rfl, rfl⟩]⟩
/-- unsee -/
theorem C_unsee {t : Nat} {h : mH} {z : St} (m : IC t h z) : okC t z h (x_X8_unsee h) (nI z.2.2.2.2.1.length) (z.1, z.2.1, z.2.2.1, z.2.2.2.1, [], z.2.2.2.2.2) := by
  refine ⟨msi (msi (msi h 0 9 0) 0 10 0) 0 11 0, ?_, IC.next (m.seen (h' := msi (msi (msi h 0 9 0) 0 10 0) 0 11 0) (se := []) ?_ (fun _ _ => rfl) ?_), (frC_i (by decide)).trans ((frC_i (by decide)).trans (frC_i (by decide)))⟩
  · unfold x_X8_unsee; simp only [mlet_eq]; rw [m.2.2.2.2.2.2.2.2.1.1]
  · intro a h1 k; rw [mgi_msi, if_neg (by omega), mgi_msi, if_neg (by omega), mgi_msi, if_neg (by omega)]
  · simp [mgi_msi, nI_0, orAll]
theorem M_unsee {h : mH} {z : St} (m : IM h z) : okM z h (x_X9_unsee h) (nI z.2.2.2.2.1.length) (z.1, z.2.1, z.2.2.1, z.2.2.2.1, [], z.2.2.2.2.2) := by
  refine ⟨msi (msi h 82 0 0) 82 10 0, ?_, m.seen (se := []) ?_ ?_ (fun _ => rfl) ?_ ?_, (frM_i (by decide)).trans (frM_i (by decide))⟩
  · unfold x_X9_unsee; simp only [mlet_eq]; rw [mgi_msi, if_neg (by decide), m.2.2.2.2.1.1]
  · intro a h1 h2 h3 k; rw [mgi_msi, if_neg (by omega), mgi_msi, if_neg (by omega)]
  · intro k h1 h2; rw [mgi_msi, if_neg (by omega), mgi_msi, if_neg (by omega)]
  · simp [mgi_msi, nI_0]
  · intro j q hq; simp at hq
/-- see -/
def okSee (p v : Int32) : Prop := (0 ≤ p ∧ p ≤ 19) ∧ (0 ≤ v ∧ v ≤ 1)
theorem bit_of (c : Nat) (hc : c < 20) : x_X8_bitOf (nI c) = some (nI (2 ^ (19 - c))) := by
  have : ∀ c, c < 20 → (1 : Int32) <<< (((19 : Int32) - nI c) &&& 31) = nI (2 ^ (19 - c)) := by decide +kernel
  unfold x_X8_bitOf
  rw [this c hc]
theorem orAll_app (l : List Int32) (x : Int32) : orAll (l ++ [x]) = orAll l ||| x := by
  unfold orAll
  rw [List.foldl_append]
  rfl
