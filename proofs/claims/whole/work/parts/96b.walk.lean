/-! the class walks -/
/-- the walk's cells: steps, queue, how many -/
def WM (h : mH) (L : Nat) (Q : List Nat) (D : Nat → Nat) : Prop := mgi h 67 2 = nI Q.length ∧ (∀ x u, Q[x]? = some u → mgi h 69 x = nI u) ∧ ∀ k, k < L → mgi h 68 k = if k ∈ Q then nI (D k) else -9
def frWk (h h' : mH) : Prop := (∀ b k, ¬ (b = 67 ∧ k = 2) → b ≠ 68 → b ≠ 69 → mgi h' b k = mgi h b k) ∧ ∀ b k, mgl h' b k = mgl h b k
theorem frWk.refl {h : mH} : frWk h h := ⟨fun _ _ _ _ _ => rfl, fun _ _ => rfl⟩
theorem frWk.trans {h h1 h2 : mH} (a : frWk h h1) (b : frWk h1 h2) : frWk h h2 := ⟨fun c k x y z => (b.1 c k x y z).trans (a.1 c k x y z), fun c k => (b.2 c k).trans (a.2 c k)⟩
theorem frWk.cs {h h' : mH} {s : Sh} (f : frWk h h') (m : CS h 2 s) : CS h' 2 s := m.congr (fun k => f.1 _ k (by omega) (by omega) (by omega)) (fun k => f.1 _ k (by omega) (by omega) (by omega)) (fun k => f.1 _ k (by omega) (by omega) (by omega))
theorem frWk.al {h h' : mH} {s : Sh} (f : frWk h h') (m : AL h 5 s) : AL h' 5 s := m.congr (fun k => f.1 _ k (by omega) (by omega) (by omega)) (fun k => f.1 _ k (by omega) (by omega) (by omega)) (fun k => f.1 _ k (by omega) (by omega) (by omega)) (fun k => f.2 _ k)
/-- the state of a walk at one of the queue -/
def WkI (h0 h : mH) (s : Sh) (i a v : Nat) (Q : List Nat) (D : Nat → Nat) : Prop := WM h (ans s).length Q D ∧ BJ (ans s) i a Q D ∧ Q[a]? = some v ∧ frWk h0 h
theorem BJ.len {l : List Nat} {i a : Nat} {Q : List Nat} {D : Nat → Nat} (b : BJ l i a Q D) : Q.length ≤ l.length := by
  rw [← ct_mem (L := l.length) Q b.1.1 b.1.2]
  exact fb_ct_le _ _
theorem BJ.room {l : List Nat} {i a u : Nat} {Q : List Nat} {D : Nat → Nat} (b : BJ l i a Q D) (hu : u < l.length) (hn : ¬ u ∈ Q) : Q.length < l.length := by
  have c := ct_mem (L := l.length) Q b.1.1 b.1.2
  rcases Nat.lt_or_ge Q.length l.length with q | q
  · exact q
  · have e := b.len
    have : Q.length = l.length := by omega
    rw [this] at c
    have := fb_ct_all.mp c u hu
    exact absurd (by simpa using this) hn
/-- coming to an answer -/
theorem reach_eq {N i a v u y : Nat} {s : Sh} {h0 h : mH} {Q : List Nat} {D : Nat → Nat} (hN : 400 < N) (w : WS s) (al : AL h0 5 s) (I : WkI h0 h s i a v Q D) (hy : y ∈ ans s) (eu : (ans s).idxOf y = u) (he : nbr (ans s) v u = true) : ∃ h' Q' D', x_X7_reach N 1 (shl s y) (nI (D v) + 1) h = some h' ∧ WkI h0 h' s i a v Q' D' ∧ u ∈ Q' ∧ (∀ k ∈ Q, k ∈ Q') ∧ D' v = D v := by
  obtain ⟨⟨m1, m2, m3⟩, bj, hv, fr⟩ := I
  have l310 := ans_310 w
  have ul : u < (ans s).length := by rw [← eu]; exact List.idxOf_lt_length_of_mem hy
  have no : x_X1_numberOf N (1 + 4) (shl s y) h = some (nI u) := by
    have := no_ans (N := N) (a := 5) hN w (fr.al al) (ans_lt hy)
    unfold nm at this
    rw [if_pos hy, eu] at this
    exact this
  have ql := bj.len
  unfold x_X7_reach
  rw [no, Option.bind_some, if_neg (nI_n9 (by omega)), mck_ok (vp_in_nI (by omega) (by decide)), nI_clamp (by omega), m3 u ul]
  by_cases c : u ∈ Q
  · have du : D u < 2 ^ 31 := by
      obtain ⟨x, hx, e⟩ := List.mem_iff_getElem.mp c
      have := (bj.2.2.2.2.1 x u (by rw [List.getElem?_eq_getElem hx, e])).2
      omega
    rw [if_pos c, if_pos (nI_n9 du)]
    exact ⟨h, Q, D, rfl, ⟨⟨m1, m2, m3⟩, bj, hv, fr⟩, c, fun k hk => hk, rfl⟩
  · have rm := bj.room ul c
    obtain ⟨bj', sm⟩ := bj.add hv ul he c
    have vm : v ∈ Q := List.mem_of_getElem? hv
    have al' : a < Q.length := (List.getElem?_eq_some_iff.mp hv).1
    rw [if_neg c, if_neg (not_not_intro rfl), m1, if_neg (show ¬ (310 : Int32) ≤ nI Q.length from nI_ge (b := 310) (by omega) (by decide)), mck_ok (vp_in_nI (by omega) (by decide)), mlet_eq, mgi_msi, if_neg (by omega), m1, mck_ok (vp_in_nI (by omega) (by decide)), nI_clamp (by omega), mlet_eq, mgi_msi, if_neg (by omega), mgi_msi, if_neg (by omega), m1, nI_1, nI_1, mlet_eq]
    refine ⟨_, Q ++ [u], fun k => if k = u then D v + 1 else D k, rfl, ⟨⟨?_, fun x p hx => ?_, fun k hk => ?_⟩, bj', ?_, fr.trans ⟨fun b k x1 x2 x3 => by rw [mgi_msi, if_neg (by omega), mgi_msi, if_neg (by omega), mgi_msi, if_neg (by omega)], fun b k => rfl⟩⟩, by simp, fun k hk => List.mem_append_left _ hk, sm v vm⟩
    · rw [mgi_same, List.length_append]; rfl
    · rw [mgi_msi, if_neg (by omega), mgi_msi]
      rcases get_app hx with ⟨x1, x2⟩ | ⟨x1, x2⟩
      · rw [if_neg (by omega), mgi_msi, if_neg (by omega)]; exact m2 x p x2
      · rw [if_pos ⟨rfl, x1⟩, x2]
    · rw [mgi_msi, if_neg (by omega), mgi_msi, if_neg (by omega), mgi_msi]
      show _ = if k ∈ Q ++ [u] then nI (if k = u then D v + 1 else D k) else -9
      by_cases d : k = u
      · rw [if_pos ⟨rfl, d⟩, if_pos (by rw [d]; simp), if_pos d]
      · rw [if_neg (fun q => d q.2), m3 k hk, if_neg d]
        by_cases e : k ∈ Q
        · rw [if_pos e, if_pos (List.mem_append_left _ e)]
        · rw [if_neg e, if_neg (by rw [List.mem_append, List.mem_singleton]; exact fun q => q.elim e d)]
    · rw [List.getElem?_append_left al']; exact hv
/-- an existing walk, gone on: what is come to stays -/
def WkE (h0 : mH) (s : Sh) (i a v : Nat) (S : Nat → Prop) (dv : Nat) (h : mH) : Prop := ∃ Q D, WkI h0 h s i a v Q D ∧ D v = dv ∧ ∀ u, S u → u ∈ Q
theorem byRows_eq {N i a v r r' dv : Nat} {s : Sh} {h0 h : mH} {S : Nat → Prop} (hN : 400 < N) (w : WS s) (cs : CS h0 2 s) (al : AL h0 5 s) (hr : r < sH s) (hr' : r' < sH s) (vl : v < (ans s).length) (E : WkE h0 s i a v S dv h) : ∃ h', x_X7_reachByRows N 1 (nI v) (nI r) (nI r') h = some h' ∧ WkE h0 s i a v (fun u => S u ∨ ∃ c d, c < sW s ∧ d < sW s ∧ swc s ((ans s).getD v 0) r r' c d = true ∧ u = (ans s).idxOf (swt s ((ans s).getD v 0) r r' c d)) dv h' := by
  have l310 := ans_310 w
  have w5 := w.2.2.2.1
  have hq := getD_mem vl
  have hql := ans_lt hq
  obtain ⟨q, eq⟩ : ∃ q, q = (ans s).getD v 0 := ⟨_, rfl⟩
  rw [← eq] at hq hql ⊢
  have fr0 : frWk h0 h := by obtain ⟨Q, D, I, -⟩ := E; exact I.2.2.2
  have pl : mgi h (1 + 4 + 2) v = shl s q := by rw [eq]; exact (fr0.al al).2.2.2.1 v vl
  unfold x_X7_reachByRows
  rw [mck_ok (vp_in_nI (by omega) (by decide)), nI_clamp (by omega), mlet_eq, pl, giving_eq (a := 1 + 1) w (fr0.cs cs) hr hr' hql, Option.bind_some, giving_eq (a := 1 + 1) w (fr0.cs cs) hr' hr hql, Option.bind_some]
  refine lpI (fun f (x : mH) j => x_X7_reachByRows_44 N 1 (nI v) (nI r) (nI r') (1 + 1) (shl s q) (nI (P5 fun c => decide (c < sW s) && gv s q r r' c)) (nI (P5 fun c => decide (c < sW s) && gv s q r' r c)) f j x) (fun c x => WkE h0 s i a v (fun u => S u ∨ ∃ c' d, c' < c ∧ d < sW s ∧ swc s q r r' c' d = true ∧ u = (ans s).idxOf (swt s q r r' c' d)) dv x) (fun o => ∃ h', o = some h' ∧ WkE h0 s i a v (fun u => S u ∨ ∃ c d, c < sW s ∧ d < sW s ∧ swc s q r r' c d = true ∧ u = (ans s).idxOf (swt s q r r' c d)) dv h') (sW s) (fun f c x hc hx => ?_) (fun f x hx => ?_) N 0 h (by omega) (by omega) (by obtain ⟨Q, D, I, e1, e2⟩ := E; exact ⟨Q, D, I, e1, fun u hu => hu.elim (e2 u) (fun ⟨c', d, hc', _⟩ => by omega)⟩)
  · obtain ⟨Q, D, I, e1, e2⟩ := hx
    have cw : mgi x (1 + 1) 1 = nI (sW s) := (I.2.2.2.cs cs).2.1
    show (∃ x' : mH, x_X7_reachByRows_44 N 1 (nI v) (nI r) (nI r') (1 + 1) (shl s q) (nI (P5 fun c => decide (c < sW s) && gv s q r r' c)) (nI (P5 fun c => decide (c < sW s) && gv s q r' r c)) (f + 1) (nI c) x = x_X7_reachByRows_44 N 1 (nI v) (nI r) (nI r') (1 + 1) (shl s q) (nI (P5 fun c => decide (c < sW s) && gv s q r r' c)) (nI (P5 fun c => decide (c < sW s) && gv s q r' r c)) f (nI (c + 1)) x' ∧ _) ∨ ∃ h', _ = some h' ∧ _
    rw [x_X7_reachByRows_44_s, cw, if_neg (nI_ge hc (by omega))]
    by_cases z : nI (P5 fun c => decide (c < sW s) && gv s q r' r c) = 0
    · refine Or.inr ⟨x, by rw [if_pos z], Q, D, I, e1, fun u hu => hu.elim (fun q => e2 u (Or.inl q)) (fun ⟨c', d, hc', hd', hs, _⟩ => ?_)⟩
      have : (decide (d < sW s) && gv s q r' r d) = false := by
        have := (P5_and (f := fun c => decide (c < sW s) && gv s q r' r c) (c := d) (by omega)).mp (by rw [z]; exact b_ext fun i hi => by rw [b_and, b_0, Bool.false_and])
        exact this
      unfold swc at hs
      rw [Bool.and_eq_true] at hs
      rw [hs.2] at this
      simp [hd'] at this
    · rw [if_neg z, colBit c (by omega), Option.bind_some]
      by_cases g1 : gv s q r r' c = true
      · rw [if_pos (fun e => by rw [P5_and (by omega)] at e; simp [hc, g1] at e)]
        refine Or.inl (lpI (fun g (x : mH) j => x_X7_reachByRows_76 N (x_X7_reachByRows_44 N 1 (nI v) (nI r) (nI r') (1 + 1) (shl s q) (nI (P5 fun c => decide (c < sW s) && gv s q r r' c)) (nI (P5 fun c => decide (c < sW s) && gv s q r' r c)) f) 1 (nI v) (nI r) (nI r') (1 + 1) (shl s q) (nI (P5 fun c => decide (c < sW s) && gv s q r r' c)) (nI (P5 fun c => decide (c < sW s) && gv s q r' r c)) (nI c) g j x) (fun d x => WkE h0 s i a v (fun u => (S u ∨ ∃ c' d, c' < c ∧ d < sW s ∧ swc s q r r' c' d = true ∧ u = (ans s).idxOf (swt s q r r' c' d)) ∨ ∃ d', d' < d ∧ swc s q r r' c d' = true ∧ u = (ans s).idxOf (swt s q r r' c d')) dv x) (fun o => ∃ x' : mH, o = x_X7_reachByRows_44 N 1 (nI v) (nI r) (nI r') (1 + 1) (shl s q) (nI (P5 fun c => decide (c < sW s) && gv s q r r' c)) (nI (P5 fun c => decide (c < sW s) && gv s q r' r c)) f (nI (c + 1)) x' ∧ WkE h0 s i a v (fun u => S u ∨ ∃ c' d, c' < c + 1 ∧ d < sW s ∧ swc s q r r' c' d = true ∧ u = (ans s).idxOf (swt s q r r' c' d)) dv x') (sW s) (fun g d x hd hx => ?_) (fun g x hx => ?_) N 0 x (by omega) (by omega) ⟨Q, D, I, e1, fun u hu => hu.elim (e2 u) (fun ⟨d', hd', _⟩ => by omega)⟩)
        · obtain ⟨Q, D, I, e1, e2⟩ := hx
          have csx := I.2.2.2.cs cs
          have cw : mgi x (1 + 1) 1 = nI (sW s) := csx.2.1
          refine Or.inl ?_
          show ∃ x' : mH, x_X7_reachByRows_76 N _ 1 (nI v) (nI r) (nI r') (1 + 1) (shl s q) _ _ (nI c) (g + 1) (nI d) x = x_X7_reachByRows_76 N _ 1 (nI v) (nI r) (nI r') (1 + 1) (shl s q) _ _ (nI c) g (nI (d + 1)) x' ∧ _
          rw [x_X7_reachByRows_76_s, cw, if_neg (nI_ge hd (by omega)), colBit d (by omega), Option.bind_some]
          unfold x_X7_reachByRows_124
          by_cases g2 : gv s q r' r d = true
          · have sc : swc s q r r' c d = true := by unfold swc; rw [g1, g2]; rfl
            have ha := swt_ans w hr hr' hc hd sc hq
            have vm : v ∈ Q := List.mem_of_getElem? I.2.2.1
            have st : mgi x 68 v = nI (D v) := by rw [I.1.2.2 v vl, if_pos vm]
            have nbq : nbr (ans s) v ((ans s).idxOf (swt s q r r' c d)) = true := by
              unfold nbr
              rw [getD_idx ha, ← eq]
              exact nb4_swt w hr hr' hc hd sc hql
            obtain ⟨x', Q', D', r1, r2, r3, r4, r5⟩ := reach_eq (N := N) hN w al I ha rfl nbq
            refine ⟨x', ?_, Q', D', r2, by rw [r5, e1], fun u hu => ?_⟩
            · rw [if_neg (fun e => by rw [P5_and (by omega)] at e; simp [hd, g2] at e), switched_eq (a := 1 + 1) w csx hr hr' hc hd, Option.bind_some, mck_ok (vp_in_nI (by omega) (by decide)), nI_clamp (by omega), st, r1, Option.bind_some, nI_1]
            · rcases hu with hu | ⟨d', hd', hs', eu⟩
              · exact r4 u (e2 u (Or.inl hu))
              · by_cases dd : d' = d
                · rw [eu, dd]; exact r3
                · exact r4 u (e2 u (Or.inr ⟨d', by omega, hs', eu⟩))
          · have g2' : gv s q r' r d = false := by simpa using g2
            refine ⟨x, by rw [if_pos ((P5_and (f := fun c => decide (c < sW s) && gv s q r' r c) (by omega)).mpr (by simp [g2'])), nI_1], Q, D, I, e1, fun u hu => ?_⟩
            rcases hu with hu | ⟨d', hd', hs', eu⟩
            · exact e2 u (Or.inl hu)
            · by_cases dd : d' = d
              · unfold swc at hs'
                rw [dd, g2', Bool.and_false] at hs'
                cases hs'
              · exact e2 u (Or.inr ⟨d', by omega, hs', eu⟩)
        · obtain ⟨Q, D, I, e1, e2⟩ := hx
          have cw : mgi x (1 + 1) 1 = nI (sW s) := (I.2.2.2.cs cs).2.1
          show ∃ x' : mH, x_X7_reachByRows_76 N _ 1 (nI v) (nI r) (nI r') (1 + 1) (shl s q) _ _ (nI c) (g + 1) (nI (sW s)) x = _ ∧ _
          rw [x_X7_reachByRows_76_s, cw, if_pos (nI_le (Nat.le_refl _) (by omega))]
          unfold x_X7_reachByRows_130
          refine ⟨x, by rw [nI_1], Q, D, I, e1, fun u hu => ?_⟩
          rcases hu with hu | ⟨c', d, hc', hd', hs', eu⟩
          · exact e2 u (Or.inl (Or.inl hu))
          · by_cases cc : c' = c
            · rw [cc] at hs' eu; exact e2 u (Or.inr ⟨d, hd', hs', eu⟩)
            · exact e2 u (Or.inl (Or.inr ⟨c', d, by omega, hd', hs', eu⟩))
      · have g1' : gv s q r r' c = false := by simpa using g1
        unfold x_X7_reachByRows_130
        refine Or.inl ⟨x, by rw [if_neg (not_not_intro ((P5_and (f := fun c => decide (c < sW s) && gv s q r r' c) (by omega)).mpr (by simp [g1']))), nI_1], Q, D, I, e1, fun u hu => ?_⟩
        rcases hu with hu | ⟨c', d, hc', hd', hs', eu⟩
        · exact e2 u (Or.inl hu)
        · by_cases cc : c' = c
          · unfold swc at hs'
            rw [cc, g1', Bool.false_and] at hs'
            cases hs'
          · exact e2 u (Or.inr ⟨c', d, by omega, hd', hs', eu⟩)
  · obtain ⟨Q, D, I, e1, e2⟩ := hx
    have cw : mgi x (1 + 1) 1 = nI (sW s) := (I.2.2.2.cs cs).2.1
    refine ⟨x, ?_, Q, D, I, e1, e2⟩
    show x_X7_reachByRows_44 N 1 (nI v) (nI r) (nI r') (1 + 1) (shl s q) _ _ (f + 1) (nI (sW s)) x = _
    rw [x_X7_reachByRows_44_s, cw, if_pos (nI_le (Nat.le_refl _) (by omega))]
theorem around_eq {N i a v dv : Nat} {s : Sh} {h0 h : mH} (hN : 400 < N) (w : WS s) (cs : CS h0 2 s) (al : AL h0 5 s) (vl : v < (ans s).length) (E : WkE h0 s i a v (fun _ => False) dv h) : ∃ h', x_X7_reachAround N 1 (nI v) h = some h' ∧ WkE h0 s i a v (fun u => u < (ans s).length ∧ nbr (ans s) v u = true) dv h' := by
  have h4 := w.2.1
  have hq := getD_mem vl
  unfold x_X7_reachAround
  refine lpI (fun f (x : mH) j => x_X7_reachAround_2 N 1 (nI v) f j x) (fun r x => WkE h0 s i a v (fun u => ∃ r1 r' c d, r1 < r ∧ r1 < r' ∧ r' < sH s ∧ c < sW s ∧ d < sW s ∧ swc s ((ans s).getD v 0) r1 r' c d = true ∧ u = (ans s).idxOf (swt s ((ans s).getD v 0) r1 r' c d)) dv x) (fun o => ∃ h', o = some h' ∧ WkE h0 s i a v (fun u => u < (ans s).length ∧ nbr (ans s) v u = true) dv h') (sH s) (fun f r x hr hx => ?_) (fun f x hx => ?_) N 0 h (by omega) (by omega) (by obtain ⟨Q, D, I, e1, e2⟩ := E; exact ⟨Q, D, I, e1, fun u ⟨r1, _, _, _, hh, _⟩ => by omega⟩)
  · have ch : ∀ y, (∃ S, WkE h0 s i a v S dv y) → mgi y (1 + 1) 0 = nI (sH s) := fun y ⟨S, Q, D, I, _⟩ => (I.2.2.2.cs cs).1
    show (∃ x' : mH, x_X7_reachAround_2 N 1 (nI v) (f + 1) (nI r) x = x_X7_reachAround_2 N 1 (nI v) f (nI (r + 1)) x' ∧ _) ∨ _
    rw [x_X7_reachAround_2_s, ch x ⟨_, hx⟩, if_neg (nI_ge hr (by omega)), mlet_eq, nI_1]
    refine Or.inl (lpI (fun g (y : mH) j => x_X7_reachAround_18 N (x_X7_reachAround_2 N 1 (nI v) f) 1 (nI v) (nI r) g j y) (fun r' y => r + 1 ≤ r' ∧ WkE h0 s i a v (fun u => (∃ r1 r' c d, r1 < r ∧ r1 < r' ∧ r' < sH s ∧ c < sW s ∧ d < sW s ∧ swc s ((ans s).getD v 0) r1 r' c d = true ∧ u = (ans s).idxOf (swt s ((ans s).getD v 0) r1 r' c d)) ∨ ∃ r2 c d, r < r2 ∧ r2 < r' ∧ c < sW s ∧ d < sW s ∧ swc s ((ans s).getD v 0) r r2 c d = true ∧ u = (ans s).idxOf (swt s ((ans s).getD v 0) r r2 c d)) dv y) (fun o => ∃ x' : mH, o = x_X7_reachAround_2 N 1 (nI v) f (nI (r + 1)) x' ∧ WkE h0 s i a v (fun u => ∃ r1 r' c d, r1 < r + 1 ∧ r1 < r' ∧ r' < sH s ∧ c < sW s ∧ d < sW s ∧ swc s ((ans s).getD v 0) r1 r' c d = true ∧ u = (ans s).idxOf (swt s ((ans s).getD v 0) r1 r' c d)) dv x') (sH s) (fun g r' y hr' hy => ?_) (fun g y hy => ?_) N (r + 1) x (by omega) (by omega) ⟨Nat.le_refl _, by obtain ⟨Q, D, I, e1, e2⟩ := hx; exact ⟨Q, D, I, e1, fun u hu => hu.elim (e2 u) (fun ⟨r2, _, _, h1, h2, _⟩ => by omega)⟩⟩)
    · obtain ⟨le, hy⟩ := hy
      obtain ⟨y', q1, q2⟩ := byRows_eq hN w cs al hr hr' vl hy
      refine Or.inl ⟨y', ?_, by omega, ?_⟩
      · show x_X7_reachAround_18 N (x_X7_reachAround_2 N 1 (nI v) f) 1 (nI v) (nI r) (g + 1) (nI r') y = x_X7_reachAround_18 N (x_X7_reachAround_2 N 1 (nI v) f) 1 (nI v) (nI r) g (nI (r' + 1)) y'
        rw [x_X7_reachAround_18_s, ch y ⟨_, hy⟩, if_neg (nI_ge hr' (by omega)), q1, Option.bind_some, nI_1]
      · obtain ⟨Q, D, I, e1, e2⟩ := q2
        refine ⟨Q, D, I, e1, fun u hu => ?_⟩
        rcases hu with hu | ⟨r2, c, d, h1, h2, h3, h4', h5, h6⟩
        · exact e2 u (Or.inl (Or.inl hu))
        · by_cases c' : r2 = r'
          · rw [c'] at h5 h6; exact e2 u (Or.inr ⟨c, d, h3, h4', h5, h6⟩)
          · exact e2 u (Or.inl (Or.inr ⟨r2, c, d, h1, by omega, h3, h4', h5, h6⟩))
    · obtain ⟨le, hy⟩ := hy
      refine ⟨y, ?_, ?_⟩
      · show x_X7_reachAround_18 N (x_X7_reachAround_2 N 1 (nI v) f) 1 (nI v) (nI r) (g + 1) (nI (sH s)) y = _
        rw [x_X7_reachAround_18_s, ch y ⟨_, hy⟩, if_pos (nI_le (Nat.le_refl _) (by omega)), nI_1]
      · obtain ⟨Q, D, I, e1, e2⟩ := hy
        refine ⟨Q, D, I, e1, fun u ⟨r1, r2, c, d, h1, h2, h3, h4', h5, h6, h7⟩ => ?_⟩
        by_cases c' : r1 = r
        · rw [c'] at h2 h6 h7; exact e2 u (Or.inr ⟨r2, c, d, h2, h3, h4', h5, h6, h7⟩)
        · exact e2 u (Or.inl ⟨r1, r2, c, d, by omega, h2, h3, h4', h5, h6, h7⟩)
  · obtain ⟨Q, D, I, e1, e2⟩ := hx
    have ch : mgi x (1 + 1) 0 = nI (sH s) := (I.2.2.2.cs cs).1
    refine ⟨x, ?_, Q, D, I, e1, fun u ⟨hu, hn⟩ => ?_⟩
    · show x_X7_reachAround_2 N 1 (nI v) (f + 1) (nI (sH s)) x = _
      rw [x_X7_reachAround_2_s, ch, if_pos (nI_le (Nat.le_refl _) (by omega))]
    · obtain ⟨r, r', c, d, g1, g2, g3, g4, g5, g6⟩ := nb4_is w hq (getD_mem hu) hn
      refine e2 u ⟨r, r', c, d, by omega, g1, g2, g3, g4, g5, ?_⟩
      rw [← g6, idx_getD (ans_sorted s) hu]
