theorem chk_ok3 : ∀ w, w < 4 → ∀ t0, t0 ≤ w → ∀ t1, t1 ≤ w → ∀ t2, t2 ≤ w → ∀ t3, t3 ≤ w → chk w t0 t1 t2 t3 = true := by decide +kernel
theorem chk_ok4 : ∀ t0, t0 ≤ 4 → ∀ t1, t1 ≤ 4 → ∀ t2, t2 ≤ 4 → ∀ t3, t3 ≤ 4 → chk 4 t0 t1 t2 t3 = true := by decide +kernel
theorem chk_ok5 : ∀ t0, t0 ≤ 5 → ∀ t1, t1 ≤ 5 → ∀ t2, t2 ≤ 5 → ∀ t3, t3 ≤ 5 → chk 5 t0 t1 t2 t3 = true := by decide +kernel
theorem chk_ok {w t0 t1 t2 t3 : Nat} (hw : w ≤ 5) (h0 : t0 ≤ w) (h1 : t1 ≤ w) (h2 : t2 ≤ w) (h3 : t3 ≤ w) : chk w t0 t1 t2 t3 = true := by
  by_cases c : w < 4
  · exact chk_ok3 w c t0 h0 t1 h1 t2 h2 t3 h3
  · by_cases d : w = 4
    · subst d; exact chk_ok4 t0 h0 t1 h1 t2 h2 t3 h3
    · have : w = 5 := by omega
      subst this; exact chk_ok5 t0 h0 t1 h1 t2 h2 t3 h3
theorem rowA_pol {s : Sh} (w : WS s) (r : Nat) : ∃ t, t ≤ sW s ∧ ev (2 ^ 16) ((rowA s false r).map (pkd s)) = pol (sW s) t := by
  unfold rowA
  by_cases c : r < sH s
  · refine ⟨sR s r, w.2.2.2.2.1 r c, ?_⟩
    rw [if_pos c]
    unfold pol rowL rowF
    have : (List.range (2 ^ sW s)).filter (rowok s r false) = (List.range (2 ^ sW s)).filter (fun m => bc m 20 == sR s r) := by
      congr 1
      funext m
      simp [rowok]
    rw [this]
    rfl
  · refine ⟨0, Nat.zero_le _, ?_⟩
    rw [if_neg c]
    unfold pol
    have z : ∀ w, w ≤ 5 → (List.range (2 ^ w)).filter (fun m => bc m 20 == 0) = [0] := by decide +kernel
    rw [z _ w.2.2.2.1]
    rfl
theorem L0_310 {s : Sh} (w : WS s) : (L0 s false (rowA s false 0)).length ≤ 310 := by
  obtain ⟨t0, a0, b0⟩ := rowA_pol w 0
  obtain ⟨t1, a1, b1⟩ := rowA_pol w 1
  obtain ⟨t2, a2, b2⟩ := rowA_pol w 2
  obtain ⟨t3, a3, b3⟩ := rowA_pol w 3
  have h := chk_ok w.2.2.2.1 a0 a1 a2 a3
  unfold chk at h
  rw [beq_iff_eq, ← b0, ← b1, ← b2, ← b3, ← ev_Z4, ← oX_closed] at h
  rw [L0_len]
  refine swar (Z4_len (rowA_le w _ _) (rowA_le w _ _) (rowA_le w _ _) (rowA_le w _ _)) ?_ h
  unfold tgt
  exact pkS_lt (fun c hc => by have := w.2.2.2.2.2.1 c hc; have := w.2.1; omega)
theorem ans0_310 {s : Sh} (w : WS s) : (ans0 s).length ≤ 310 := by
  have := L0_310 w
  rw [L0_ans w false] at this
  exact this
theorem ans_310 {s : Sh} (w : WS s) : (ans s).length ≤ 310 := Nat.le_trans (List.length_filter_le _ _) (ans0_310 w)
/-- list, with pins or without -/
theorem list_eq {N p : Nat} {s : Sh} {h : mH} (pn : Bool) (hN : 40 < N) (hp : p ≠ 92 ∧ p ≠ 93 ∧ p ≠ 94 ∧ p ≠ 82) (w : WS s) (ms : MS h p 0 s) : ∃ h', x_X9_list N p (b2i pn) h = some h' ∧ LsA h' (if pn then ans s else ans0 s) ∧ frL h h' := by
  have := list_raw (N := N) (p := p) (pn := pn) (h := h) hN hp w (by rw [L0_ans w pn]; cases pn; exact Nat.le_trans (ans0_310 w) (by decide); exact Nat.le_trans (ans_310 w) (by decide)) ms
  rwa [L0_ans w pn] at this
