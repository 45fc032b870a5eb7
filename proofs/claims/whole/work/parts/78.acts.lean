/-! acts, slots -/
def iA (h : mH) (A : List Sh) : Prop := ∃ n : Nat, n < 14 ∧ mgi h 20 1 = nI n ∧ mgi h 20 2 = nI A.length ∧ ∀ j s, A[j]? = some s → CS h (22 + 3 * ((n + 14 - A.length + j) % 14)) s
def iK (h : mH) (K : Nat → Option Sh) : Prop := ∀ i, i < 2 → mgi h 75 i = (if (K i).isSome then 1 else 0) ∧ ∀ s, K i = some s → CS h (76 + 3 * i) s
def iB (h : mH) (A : List Sh) : Prop := mgi h 82 7 = nI A.length ∧ ∀ j s, A[j]? = some s → MS h 87 (32 * j) s
def iKM (h : mH) (K : Nat → Option Sh) : Prop := ∀ i, i < 2 → mgi h 89 i = (if (K i).isSome then 1 else 0) ∧ ∀ s, K i = some s → MS h 88 (32 * i) s
theorem iA.congr {h h' : mH} {A : List Sh} (e : ∀ b, 20 ≤ b → b < 64 → ∀ k, mgi h' b k = mgi h b k) (m : iA h A) : iA h' A := by
  obtain ⟨n, a, b, c, d⟩ := m
  refine ⟨n, a, by rw [e 20 (by decide) (by decide)]; exact b, by rw [e 20 (by decide) (by decide)]; exact c, fun j s hj => ?_⟩
  have hq : (n + 14 - A.length + j) % 14 < 14 := Nat.mod_lt _ (by decide)
  exact (d j s hj).congr (e _ (by omega) (by omega)) (e _ (by omega) (by omega)) (e _ (by omega) (by omega))
theorem iK.congr {h h' : mH} {K : Nat → Option Sh} (e : ∀ b, 75 ≤ b → b < 82 → ∀ k, mgi h' b k = mgi h b k) (m : iK h K) : iK h' K := fun i hi => ⟨by rw [e 75 (by decide) (by decide)]; exact (m i hi).1, fun s hs => ((m i hi).2 s hs).congr (e _ (by omega) (by omega)) (e _ (by omega) (by omega)) (e _ (by omega) (by omega))⟩
theorem iB.congr {h h' : mH} {A : List Sh} (e1 : mgi h' 82 7 = mgi h 82 7) (e : ∀ k, mgi h' 87 k = mgi h 87 k) (m : iB h A) : iB h' A := ⟨by rw [e1]; exact m.1, fun j s hs => (m.2 j s hs).congr e⟩
theorem iKM.congr {h h' : mH} {K : Nat → Option Sh} (e1 : ∀ k, mgi h' 89 k = mgi h 89 k) (e : ∀ k, mgi h' 88 k = mgi h 88 k) (m : iKM h K) : iKM h' K := fun i hi => ⟨by rw [e1]; exact (m i hi).1, fun s hs => ((m i hi).2 s hs).congr e⟩
theorem addA_get {A : List Sh} {s s' : Sh} {j : Nat} (hA : A.length ≤ 14) (h : (addA A s)[j]? = some s') : (A.length < 14 ∧ j < A.length ∧ A[j]? = some s') ∨ (A.length = 14 ∧ j < 13 ∧ A[j + 1]? = some s') ∨ (j + 1 = (addA A s).length ∧ s' = s) := by
  have hl := addA_len s hA
  have hj : j < (addA A s).length := by rw [List.getElem?_eq_some_iff] at h; exact h.1
  unfold addA at h
  by_cases c : A.length < 14
  · rw [if_pos c] at hl
    rw [if_pos c, List.getElem?_append] at h
    by_cases q : j < A.length
    · rw [if_pos q] at h
      exact Or.inl ⟨c, q, h⟩
    · rw [if_neg q, show j - A.length = 0 by omega] at h
      exact Or.inr (Or.inr ⟨by omega, by simpa using h.symm⟩)
  · rw [if_neg c] at hl
    rw [if_neg c, List.getElem?_append, List.length_tail, List.getElem?_tail] at h
    by_cases q : j < A.length - 1
    · rw [if_pos q] at h
      exact Or.inr (Or.inl ⟨by omega, by omega, h⟩)
    · rw [if_neg q, show j - (A.length - 1) = 0 by omega] at h
      exact Or.inr (Or.inr ⟨by omega, by simpa using h.symm⟩)
theorem add_eq {h : mH} {A : List Sh} {s : Sh} (hA : A.length ≤ 14) (m : iA h A) (w : WS s) (cs : CS h 2 s) : ∃ h', x_X0_add 2 h = some h' ∧ iA h' (addA A s) ∧ (∀ b k, b < 20 ∨ 64 ≤ b → mgi h' b k = mgi h b k) ∧ ∀ b k, mgl h' b k = mgl h b k := by
  obtain ⟨n, n1, n2, n3, n4⟩ := m
  have hl := addA_len s hA
  unfold x_X0_add
  rw [n2, mck_ok (vp_in_nI n1 (by decide)), nI_clamp (by omega)]
  obtain ⟨h1, e1, c1, f1⟩ := become_eq (t := 22 + 3 * n) (p := 2) w (by omega) cs
  rw [e1]
  simp only [Option.bind_some, mlet_eq]
  unfold x_J9_min_7cf53
  simp only [Option.bind_some]
  have a1 : mgi h1 20 1 = nI n := by rw [f1.1 20 1 (by omega) (by omega) (by omega)]; exact n2
  have a2 : ∀ v, mgi (msi h1 20 1 v) 20 2 = nI A.length := fun v => by rw [mgi_msi, if_neg (by omega), f1.1 20 2 (by omega) (by omega) (by omega)]; exact n3
  rw [a1, nI_1, a2, nI_1]
  have v1 : (if (14 : Int32) ≤ nI (n + 1) then (0 : Int32) else nI (n + 1)) = nI ((n + 1) % 14) := by
    by_cases c : n + 1 < 14
    · rw [if_neg (show ¬ (14 : Int32) ≤ nI (n + 1) from nI_ge (b := 14) c (by decide)), Nat.mod_eq_of_lt c]
    · rw [if_pos (show (14 : Int32) ≤ nI (n + 1) from nI_le (a := 14) (by omega) (by omega)), show n + 1 = 14 by omega]
      rfl
  have v2 : (if (14 : Int32) < nI (A.length + 1) then (14 : Int32) else nI (A.length + 1)) = nI (addA A s).length := by
    rw [hl]
    by_cases c : A.length < 14
    · rw [if_neg (show ¬ (14 : Int32) < nI (A.length + 1) from nI_nlt (a := 14) (by omega) (by omega)), if_pos c]
    · rw [if_pos (show (14 : Int32) < nI (A.length + 1) from nI_lt (a := 14) (by omega) (by omega)), if_neg c]
      rfl
  rw [v1, v2]
  refine ⟨_, rfl, ⟨(n + 1) % 14, Nat.mod_lt _ (by decide), ?_, ?_, fun j s' hj => ?_⟩, fun b k hb => ?_, fun b k => f1.2 b k⟩
  · rw [mgi_msi, if_neg (by omega), mgi_msi, if_pos ⟨rfl, rfl⟩]
  · rw [mgi_msi, if_pos ⟨rfl, rfl⟩]
  · have key : ∀ p, p < 14 → CS h1 (22 + 3 * p) s' → CS (msi (msi h1 20 1 (nI ((n + 1) % 14))) 20 2 (nI (addA A s).length)) (22 + 3 * p) s' := fun p hp c => c.congr (fun k => by rw [mgi_msi, if_neg (by omega), mgi_msi, if_neg (by omega)]) (fun k => by rw [mgi_msi, if_neg (by omega), mgi_msi, if_neg (by omega)]) (fun k => by rw [mgi_msi, if_neg (by omega), mgi_msi, if_neg (by omega)])
    have old : ∀ p, p < 14 → p ≠ n → CS h (22 + 3 * p) s' → CS h1 (22 + 3 * p) s' := fun p hp hn c => c.congr (fun k => f1.1 _ k (by omega) (by omega) (by omega)) (fun k => f1.1 _ k (by omega) (by omega) (by omega)) (fun k => f1.1 _ k (by omega) (by omega) (by omega))
    refine key _ (Nat.mod_lt _ (by decide)) ?_
    rcases addA_get hA hj with ⟨c, q, g⟩ | ⟨c, q, g⟩ | ⟨q, rfl⟩
    · rw [if_pos c] at hl
      have := n4 j s' g
      rw [hl, show ((n + 1) % 14 + 14 - (A.length + 1) + j) % 14 = (n + 14 - A.length + j) % 14 by omega]
      exact old _ (Nat.mod_lt _ (by decide)) (by omega) this
    · rw [if_neg (by omega)] at hl
      have := n4 (j + 1) s' g
      rw [hl, show ((n + 1) % 14 + 14 - 14 + j) % 14 = (n + 14 - A.length + (j + 1)) % 14 by omega]
      exact old _ (Nat.mod_lt _ (by decide)) (by omega) this
    · have : (addA A s').length ≤ 14 := by rw [hl]; split <;> omega
      rw [show ((n + 1) % 14 + 14 - (addA A s').length + j) % 14 = n by omega]
      exact c1
  · rw [mgi_msi, if_neg (by omega), mgi_msi, if_neg (by omega), f1.1 b k (by omega) (by omega) (by omega)]
theorem takeBack_eq {h : mH} {B : List Sh} {s : Sh} (hA : B.length < 14) (m : iA h (B ++ [s])) (w : WS s) : ∃ h', x_X0_takeBack 2 h = some h' ∧ CS h' 2 s ∧ iA h' B ∧ (∀ b k, b ≠ 2 → b ≠ 3 → b ≠ 4 → b ≠ 20 → mgi h' b k = mgi h b k) ∧ ∀ b k, mgl h' b k = mgl h b k := by
  obtain ⟨n, n1, n2, n3, n4⟩ := m
  simp only [List.length_append, List.length_cons, List.length_nil, Nat.zero_add] at n3 n4
  unfold x_X0_takeBack
  rw [n3, if_neg (nI_nle (by omega) (by omega)), n2]
  simp only [mlet_eq]
  have v1 : (if nI n ≤ 0 then (13 : Int32) else nI n - 1) = nI ((n + 13) % 14) := by
    by_cases c : n = 0
    · subst c; decide
    · rw [if_neg (nI_nle (by omega) (by omega))]
      obtain ⟨k, rfl⟩ : ∃ k, n = k + 1 := ⟨n - 1, by omega⟩
      rw [nI_pred]
      congr 1
      omega
  rw [v1]
  have a1 : mgi (msi h 20 1 (nI ((n + 13) % 14))) 20 2 = nI (B.length + 1) := by rw [mgi_msi, if_neg (by omega)]; exact n3
  rw [a1, nI_pred]
  generalize hh : msi (msi h 20 1 (nI ((n + 13) % 14))) 20 2 (nI B.length) = h1
  have f1 : ∀ b k, b ≠ 20 → mgi h1 b k = mgi h b k := fun b k hb => by rw [← hh, mgi_msi, if_neg (by omega), mgi_msi, if_neg (by omega)]
  have f2 : mgi h1 20 1 = nI ((n + 13) % 14) := by rw [← hh, mgi_msi, if_neg (by omega), mgi_msi, if_pos ⟨rfl, rfl⟩]
  have f3 : mgi h1 20 2 = nI B.length := by rw [← hh, mgi_msi, if_pos ⟨rfl, rfl⟩]
  have fl : ∀ b k, mgl h1 b k = mgl h b k := fun b k => by rw [← hh]; rfl
  have hp : (n + 13) % 14 < 14 := Nat.mod_lt _ (by decide)
  rw [f2, mck_ok (vp_in_nI hp (by decide)), nI_clamp (by omega)]
  have cl := n4 B.length s (by simp)
  rw [show (n + 14 - (B.length + 1) + B.length) % 14 = (n + 13) % 14 by omega] at cl
  have cl1 : CS h1 (22 + 3 * ((n + 13) % 14)) s := cl.congr (fun k => f1 _ k (by omega)) (fun k => f1 _ k (by omega)) (fun k => f1 _ k (by omega))
  obtain ⟨h2, e2, c2, g2⟩ := become_eq (t := 2) w (by omega) cl1
  rw [e2]
  refine ⟨h2, rfl, c2, ⟨(n + 13) % 14, hp, ?_, ?_, fun j s' hj => ?_⟩, fun b k b1 b2 b3 b4 => ?_, fun b k => ?_⟩
  · rw [g2.1 20 1 (by omega) (by omega) (by omega)]; exact f2
  · rw [g2.1 20 2 (by omega) (by omega) (by omega)]; exact f3
  · have hjl : j < B.length := by rw [List.getElem?_eq_some_iff] at hj; exact hj.1
    have := n4 j s' (by rw [List.getElem?_append, if_pos hjl]; exact hj)
    rw [show (n + 14 - (B.length + 1) + j) % 14 = ((n + 13) % 14 + 14 - B.length + j) % 14 by omega] at this
    have hq : ((n + 13) % 14 + 14 - B.length + j) % 14 < 14 := Nat.mod_lt _ (by decide)
    refine this.congr (fun k => ?_) (fun k => ?_) (fun k => ?_)
    · rw [g2.1 _ k (by omega) (by omega) (by omega), f1 _ k (by omega)]
    · rw [g2.1 _ k (by omega) (by omega) (by omega), f1 _ k (by omega)]
    · rw [g2.1 _ k (by omega) (by omega) (by omega), f1 _ k (by omega)]
  · rw [g2.1 b k (by omega) (by omega) (by omega), f1 b k b4]
  · rw [g2.2, fl]
/-- the class's cells when the sheet is another one -/
theorem IC.board {t : Nat} {h h' : mH} {z : St} {s' : Sh} {A' : List Sh} {K' : Nat → Option Sh} (ht : t < 600) (m : IC t h z) (f : ∀ b k, (b = 0 ∨ b = 12 ∨ b = 13 ∨ b = 14 ∨ b = 15 ∨ b = 16 ∨ b = 67 ∨ b = 68) → mgi h' b k = mgi h b k) (fl : ∀ b k, b = 0 ∨ b = 12 → mgl h' b k = mgl h b k) (cs : CS h' 2 s') (al : AL h' 5 s') (ed : mgi h' 5 4 = mgi h 5 4 + 1 ∨ (mgi h' 5 4 = mgi h 5 4 ∧ ans s' = ans z.2.1 ∧ sN s' = sN z.2.1)) (ac : iA h' A') (kp : iK h' K') : IC (t + 1) h' (z.1, s', A', K', z.2.2.2.2.1, z.2.2.2.2.2) := by
  obtain ⟨⟨a1, a2⟩, b, c, ⟨e, d1, d2, e', d3, d4⟩, wk, g, n, k, ⟨l1, l2, l3⟩, o⟩ := m
  have F := fun b hb k => f b k hb
  refine ⟨⟨by rw [F 15 (by simp)]; exact a1, fun k hk => by rw [F 16 (by simp)]; exact a2 k hk⟩, cs, al, ?_, ?_, ?_, ac, kp, ⟨by rw [F 0 (by simp)]; exact l1, by rw [F 0 (by simp)]; exact l2, by rw [F 0 (by simp)]; exact l3⟩, by rw [fl 0 _ (by simp)]; exact o⟩
  · rcases ed with q | q
    · exact ⟨e + 1, by omega, by rw [q, d2, nI_1], e', by omega, by rw [F 67 (by simp)]; exact d4⟩
    · exact ⟨e, by omega, by rw [q.1, d2], e', by omega, by rw [F 67 (by simp)]; exact d4⟩
  · show WK h' s'
    rcases ed with q | ⟨q1, q2, q3⟩
    · intro hw
      exfalso
      rw [F 67 (by simp), q, d2, nI_1] at hw
      rcases d4 with r | r
      · rw [r, nI_eq (by omega) (by omega)] at hw
        omega
      · rw [r] at hw
        exact nI_n9 (by omega) hw.symm
    · have sh : shl s' = shl z.2.1 := by funext x; unfold shl; rw [q3]
      unfold WK
      rw [q2, sh]
      simp only [F 67 (by simp), F 68 (by simp), q1]
      exact wk
  · rcases g with g | ⟨s, g1, g2⟩
    · exact Or.inl (by rw [fl 12 _ (by simp)]; exact g)
    · exact Or.inr ⟨s, g1, g2.congr (fun k => F 12 (by simp) k) (fun k => F 13 (by simp) k) (fun k => F 14 (by simp) k) (fun k => fl 12 k (by simp))⟩
theorem IM.board {h h' : mH} {z : St} {s' : Sh} {A' : List Sh} {K' : Nat → Option Sh} (m : IM h z) (f : ∀ b k, (b = 83 ∨ b = 90 ∨ b = 91) → mgi h' b k = mgi h b k) (f2 : mgi h' 82 2 = mgi h 82 2) (f3 : mgi h' 82 10 = mgi h 82 10) (fl : mgl h' 82 13 = mgl h 82 13) (ms : MS h' 85 0 s') (bk : iB h' A') (kp : iKM h' K') : IM h' (z.1, s', A', K', z.2.2.2.2.1, z.2.2.2.2.2) := by
  obtain ⟨⟨a1, a2⟩, b, c, d, ⟨f4, f5⟩, g⟩ := m
  have F := fun b hb k => f b k hb
  exact ⟨⟨by rw [f2]; exact a1, fun k hk => by rw [F 83 (by simp)]; exact a2 k hk⟩, ms, bk, kp, ⟨by rw [f3]; exact f4, fun j q hq => by rw [F 90 (by simp), F 91 (by simp)]; exact f5 j q hq⟩, by rw [fl]; exact g⟩
theorem stl_self {s : Sh} (p : WP s) : stl s = s := by
  unfold stl
  rcases p with ⟨p1, p2⟩ | ⟨q, p1, p2⟩
  · rw [p1, p2]
    show (s.1, none) = s
    rw [← p1]
  · rw [p1]
    simp only [if_pos p2]
    rw [← p1]
theorem PB_of {s : Sh} (p : WP s) : PB s := by
  intro q hq
  rcases p with ⟨p1, p2⟩ | ⟨q', p1, p2⟩
  · rw [p1] at hq; cases hq
  · rw [p1] at hq
    cases hq
    exact ans_lt p2
theorem Al_p (h : mH) (a : Nat) (s : Sh) (p : Option Nat) : AL h a (s.1, p) = AL h a s := rfl
/-- the class: add, change, settle -/
theorem C_act {N t : Nat} {h h1 : mH} {z : St} {s' : Sh} {A' : List Sh} {K' : Nat → Option Sh} (hN : 400 < N) (ht : t < 600) (m : IC t h z) (hw : WF z) (w : WS s') (pb : PB s') (cs : CS h1 2 s') (f : ∀ b k, (b = 0 ∨ b = 12 ∨ b = 13 ∨ b = 14 ∨ b = 15 ∨ b = 16 ∨ b = 67 ∨ b = 68 ∨ b = 5 ∨ b = 6 ∨ b = 7 ∨ (75 ≤ b)) → mgi h1 b k = mgi h b k) (fl : ∀ b k, mgl h1 b k = mgl h b k) (ac : iA h1 A') (kp : iK h1 K') : ∃ h', x_X2_settle N 1 h1 = some h' ∧ IC (t + 1) h' (z.1, stl s', A', K', z.2.2.2.2.1, z.2.2.2.2.2) ∧ mgi h' 5 3 = nI (ans s').length ∧ mgi h' 20 2 = nI A'.length ∧ frC h h' ∧ CS h' 2 (stl s') := by
  have al : AL h 5 z.2.1 := m.2.2.1
  have al1 : AL h1 5 z.2.1 := al.congr (fun k => f 5 k (by simp)) (fun k => f 6 k (by simp)) (fun k => f 7 k (by simp)) (fun k => fl 5 k)
  obtain ⟨h2, e2, c2, a2, f2, d2⟩ := settle_eq (t := 1) hN w pb cs (Or.inr ⟨z.2.1, hw.2.1.1, al1⟩)
  have F : ∀ b k, b ≠ 2 → b ≠ 5 → b ≠ 6 → b ≠ 7 → mgi h2 b k = mgi h1 b k := fun b k x1 x2 x3 x4 => f2.1 b k (by omega) (by omega) (by omega) (by omega)
  have ac2 : iA h2 A' := ac.congr (fun b b1 b2 k => F b k (by omega) (by omega) (by omega) (by omega))
  refine ⟨h2, e2, ?_, a2.2.2.1, ?_, ?_, c2⟩
  · refine m.board ht (fun b k hb => ?_) (fun b k hb => ?_) c2 a2 ?_ ac2 (kp.congr (fun b b1 b2 k => F b k (by omega) (by omega) (by omega) (by omega)))
    · rw [F b k (by omega) (by omega) (by omega) (by omega), f b k (by omega)]
    · rw [f2.2 b k (by omega), fl]
    · rw [← f 5 4 (by simp)]
      rcases d2 with q | ⟨q1, q2⟩
      · exact Or.inl q
      · obtain ⟨r1, r2⟩ := q2 _ hw.2.1.1 al1
        exact Or.inr ⟨q1, r2, r1.2.2.1⟩
  · obtain ⟨n, n1, n2, n3, n4⟩ := ac2
    exact n3
  · intro b hb
    exact ⟨fun k => by rw [F b k (by omega) (by omega) (by omega) (by omega), f b k (by omega)], fun k => by rw [f2.2 b k (by omega), fl]⟩
