/-! the start -/
def s00 : Sh := (fun k => if k < 2 then 1 else 0, some 0)
def z00 : St := ([], s00, [], fun _ => none, [], 0)
theorem WS_00 : WS s00 := by
  refine ⟨by decide, by decide, by decide, by decide, fun r hr => ?_, fun c hc => ?_, fun k hk => ?_, by decide⟩
  · unfold sR s00; show (if 2 + r < 2 then 1 else 0) ≤ _; rw [if_neg (by omega)]; exact Nat.zero_le _
  · unfold sC s00; show (if 6 + c < 2 then 1 else 0) ≤ _; rw [if_neg (by omega)]; exact Nat.zero_le _
  · unfold sP s00; show (if 11 + k < 2 then 1 else 0) ≤ _; rw [if_neg (by omega)]; exact Nat.zero_le _
theorem ans_00 : ans s00 = [0] := by decide
theorem WP_00 : WP s00 := Or.inr ⟨0, rfl, by rw [ans_00]; exact List.mem_singleton.mpr rfl⟩
theorem WF_00 : WF z00 := ⟨Nat.zero_le _, ⟨WS_00, WP_00⟩, ⟨Nat.zero_le _, fun s hs => by cases hs⟩, fun i s e => (by cases e), ⟨Nat.zero_le _, fun e he => by cases he⟩⟩
theorem CS_00 : CS (kH8 mz0) 2 s00 := by
  refine ⟨by decide, by decide, fun r hr => ?_, fun c hc => ?_, by decide, by decide, by decide⟩
  · have : r = 0 := by have : r < 1 := hr; omega
    subst this; decide
  · have : c = 0 := by have : c < 1 := hc; omega
    subst this; decide
theorem start_ok {N : Nat} (hN : 1000 < N) : ∃ h3, x_X2_settle N 1 (kH8 mz0) = some h3 ∧ (∀ i, 82 ≤ i → (∀ k, mgi h3 i k = 0) ∧ ∀ k, mgl h3 i k = 0) ∧ Inv0 0 (kH9 h3) := by
  obtain ⟨h3, e, cs, al, fr, ed⟩ := settle_eq (N := N) (t := 1) (s := s00) (h := kH8 mz0) (by omega) WS_00 (fun q hq => by cases hq; decide) CS_00 (Or.inl (by decide))
  rw [stl_self WP_00] at cs al
  have fz := fr_8 (fun _ _ => false) mz0 (frz 1)
  have hz : ∀ i, 82 ≤ i → (∀ k, mgi h3 i k = 0) ∧ ∀ k, mgl h3 i k = 0 := fun i hi => ⟨fun k => by rw [fr.1 i k (by omega) (by omega) (by omega) (by omega)]; exact (fz i hi).1 k, fun k => by rw [fr.2 i k (by omega)]; exact (fz i hi).2.1 k⟩
  refine ⟨h3, e, hz, z00, WF_00, ?_, ?_⟩
  · have F := fun b k (h1 : ¬ (b = 1 + 1 ∧ k = 6)) (h2 : b ≠ 1 + 4) (h3 : b ≠ 1 + 5) (h4 : b ≠ 1 + 6) => fr.1 b k h1 h2 h3 h4
    have e67 : mgi h3 67 3 = -9 := by rw [F 67 3 (by decide) (by decide) (by decide) (by decide)]; decide
    have hed : ∃ n : Nat, n ≤ 0 + 1 ∧ mgi h3 5 4 = nI n := by
      have k0 : mgi (kH8 mz0) 5 4 = 0 := by decide
      rcases ed with ed | ⟨ed, -⟩
      · exact ⟨1, Nat.le_refl _, by rw [show (5 : Nat) = 1 + 4 from rfl, ed, show 1 + 4 = 5 from rfl, k0]; decide⟩
      · exact ⟨0, Nat.zero_le _, by rw [show (5 : Nat) = 1 + 4 from rfl, ed, show 1 + 4 = 5 from rfl, k0]; decide⟩
    have f9 : frM h3 (kH9 h3) := (frM_i (by decide)).trans (frM_i (by decide))
    refine IC.congr f9 ⟨⟨?_, fun k hk => by cases hk⟩, cs, al, ?_, ?_, Or.inl ?_, ⟨0, by decide, ?_, ?_, fun j s hs => by cases hs⟩, fun i hi => ⟨?_, fun s hs => by cases hs⟩, ⟨?_, ?_, ?_⟩, ?_⟩
    · rw [F 15 1 (by decide) (by decide) (by decide) (by decide)]; decide
    · obtain ⟨n, n1, n2⟩ := hed
      exact ⟨n, n1, n2, 0, Nat.zero_le _, Or.inr e67⟩
    · intro c
      obtain ⟨n, n1, n2⟩ := hed
      rw [e67, n2] at c
      have : n = 0 ∨ n = 1 := by omega
      rcases this with rfl | rfl
      · exact absurd c (by decide)
      · exact absurd c (by decide)
    · rw [fr.2 12 7 (by decide)]; decide
    · rw [F 20 1 (by decide) (by decide) (by decide) (by decide)]; decide
    · rw [F 20 2 (by decide) (by decide) (by decide) (by decide)]; decide
    · rw [F 75 i (by omega) (by decide) (by decide) (by decide)]
      have : i = 0 ∨ i = 1 := by omega
      rcases this with rfl | rfl <;> decide
    · rw [F 0 11 (by decide) (by decide) (by decide) (by decide)]; decide
    · rw [F 0 9 (by decide) (by decide) (by decide) (by decide)]; decide
    · rw [F 0 10 (by decide) (by decide) (by decide) (by decide)]; decide
    · rw [fr.2 0 12 (by decide)]; decide
  · have G : ∀ b k, 82 ≤ b → ¬ (b = 85 ∧ k < 2) → mgi (kH9 h3) b k = 0 := fun b k hb hk => by
      unfold kH9
      rw [mgi_msi, if_neg (by omega), mgi_msi, if_neg (by omega)]
      exact (hz b hb).1 k
    have G0 : mgi (kH9 h3) 85 0 = 1 := by
      unfold kH9
      rw [mgi_msi, if_neg (by omega), mgi_msi, if_pos (by omega)]
    have G1 : mgi (kH9 h3) 85 1 = 1 := by
      unfold kH9
      rw [mgi_msi, if_pos (by omega)]
    refine ⟨⟨G _ _ (by decide) (by decide), fun k hk => by cases hk⟩, ⟨G0, G1, fun r hr => ?_, fun c hc => ?_, fun k hk => ?_, G _ _ (by decide) (by decide)⟩, ⟨G _ _ (by decide) (by decide), fun j s hs => by cases hs⟩, fun i hi => ⟨G _ _ (by decide) (by omega), fun s hs => by cases hs⟩, ⟨G _ _ (by decide) (by decide), fun j s hs => by cases hs⟩, (hz 82 (by decide)).2 13⟩
    · have : r = 0 := by have : r < 1 := hr; omega
      subst this; exact G _ _ (by decide) (by decide)
    · have : c = 0 := by have : c < 1 := hc; omega
      subst this; exact G _ _ (by decide) (by decide)
    · have : k = 0 := by have : k < 1 := hk; omega
      subst this; exact G _ _ (by decide) (by decide)
/-! the step -/
theorem step_ok {N t : Nat} {h : mH} (hN : 9000 < N) (ht : t < 512) (hI : Inv0 t h) (op a b c d : Int32) : GW t (xl N op a b c d h) := by
  obtain ⟨z, hw, hc, hm⟩ := hI
  have h1 : 1000 < N := by omega
  unfold xl
  by_cases c0 : op = 0
  · rw [if_pos c0]
    exact ok_W hm (WF_write a hw) (C_write a hw hc) (fun h1 hm1 => M_write a hw hm1)
  rw [if_neg c0]
  by_cases c1 : op = 1
  · rw [if_pos c1]
    exact ok_W (z' := ([], z.2)) hm ⟨Nat.zero_le _, hw.2⟩ (C_wipe hc) (fun h1 hm1 => M_wipe hm1)
  rw [if_neg c1]
  by_cases c2 : op = 2
  · rw [if_pos c2]
    exact S_fault h1 hw hc hm
  rw [if_neg c2]
  by_cases c3 : op = 3
  · rw [if_pos c3]
    exact S_sheet h1 ht hw hc hm
  rw [if_neg c3]
  by_cases c4 : op = 4
  · rw [if_pos c4]
    exact S_total hw hc hm a b
  rw [if_neg c4]
  by_cases c5 : op = 5
  · rw [if_pos c5]
    exact S_pin hw hc hm a
  rw [if_neg c5]
  by_cases c6 : op = 6
  · rw [if_pos c6]
    exact S_test h1 hw hc hm
  rw [if_neg c6]
  by_cases c7 : op = 7
  · rw [if_pos c7]
    exact S_filled h1 hw hc hm a
  rw [if_neg c7]
  by_cases c8 : op = 8
  · rw [if_pos c8]
    exact S_mended h1 hw hc hm a
  rw [if_neg c8]
  by_cases c9 : op = 9
  · rw [if_pos c9]
    exact S_answers h1 hw hc hm
  rw [if_neg c9]
  by_cases c10 : op = 10
  · rw [if_pos c10]
    exact S_cell h1 hw hc hm a b
  rw [if_neg c10]
  by_cases c11 : op = 11
  · rw [if_pos c11]
    exact S_odds h1 hw hc hm a _
  rw [if_neg c11]
  by_cases c12 : op = 12
  · rw [if_pos c12]
    exact S_ask h1 hw hc hm a
  rw [if_neg c12]
  by_cases c13 : op = 13
  · rw [if_pos c13]
    exact S_plane h1 hw hc hm
  rw [if_neg c13]
  by_cases c14 : op = 14
  · rw [if_pos c14]
    exact S_go h1 ht hw hc hm a
  rw [if_neg c14]
  by_cases c15 : op = 15
  · rw [if_pos c15]
    exact S_swap h1 ht hw hc hm a b c d
  rw [if_neg c15]
  by_cases c16 : op = 16
  · rw [if_pos c16]
    exact S_setTotal h1 ht hw hc hm a b c
  rw [if_neg c16]
  by_cases c17 : op = 17
  · rw [if_pos c17]
    exact S_setPin h1 ht hw hc hm a b
  rw [if_neg c17]
  by_cases c18 : op = 18
  · rw [if_pos c18]
    exact S_undo h1 ht hw hc hm
  rw [if_neg c18]
  by_cases c19 : op = 19
  · rw [if_pos c19]
    exact S_switches h1 hw hc hm a
  rw [if_neg c19]
  by_cases c20 : op = 20
  · rw [if_pos c20]
    exact S_reached h1 hw hc hm
  rw [if_neg c20]
  by_cases c21 : op = 21
  · rw [if_pos c21]
    exact S_apart h1 hw hc hm a
  rw [if_neg c21]
  by_cases c22 : op = 22
  · rw [if_pos c22]
    exact S_key hN hw hc hm a
  rw [if_neg c22]
  by_cases c23 : op = 23
  · rw [if_pos c23]
    exact S_judge h1 hw hc hm a _
  rw [if_neg c23]
  by_cases c24 : op = 24
  · rw [if_pos c24]
    exact S_see hw hc hm a b
  rw [if_neg c24]
  by_cases c25 : op = 25
  · rw [if_pos c25]
    exact ok_W (z' := (z.1, z.2.1, z.2.2.1, z.2.2.2.1, [], z.2.2.2.2.2)) hm ⟨hw.1, hw.2.1, hw.2.2.1, hw.2.2.2.1, Nat.zero_le _, fun e he => by cases he⟩ (C_unsee hc) (fun h1 hm1 => M_unsee hm1)
  rw [if_neg c25]
  by_cases c26 : op = 26
  · rw [if_pos c26]
    exact S_which h1 hw hc hm a
  rw [if_neg c26]
  by_cases c27 : op = 27
  · rw [if_pos c27]
    exact S_share h1 hw hc hm a _
  rw [if_neg c27]
  by_cases c28 : op = 28
  · rw [if_pos c28]
    exact S_loose h1 hw hc hm a _
  rw [if_neg c28]
  by_cases c29 : op = 29
  · rw [if_pos c29]
    exact ok_W (z' := (z.1, z.2.1, z.2.2.1, z.2.2.2.1, z.2.2.2.2.1, ((xlshl a.toInt64 32) ||| (b.toInt64 &&& (4294967295 : Int64))))) hm ⟨hw.1, hw.2.1, hw.2.2.1, hw.2.2.2.1, hw.2.2.2.2⟩ (C_seed ((xlshl a.toInt64 32) ||| (b.toInt64 &&& (4294967295 : Int64))) hc) (fun h1 hm1 => M_seed ((xlshl a.toInt64 32) ||| (b.toInt64 &&& (4294967295 : Int64))) hm1)
  rw [if_neg c29]
  by_cases c30 : op = 30
  · rw [if_pos c30]
    exact S_drawn h1 hw hc hm a
  rw [if_neg c30]
  by_cases c31 : op = 31
  · rw [if_pos c31]
    exact S_keep h1 hw hc hm a
  rw [if_neg c31]
  by_cases c32 : op = 32
  · rw [if_pos c32]
    exact S_again h1 ht hw hc hm a
  rw [if_neg c32]
  by_cases c33 : op = 33
  · rw [if_pos c33]
    exact S_count h1 hw hc hm a
  rw [if_neg c33]
  exact ⟨h, rfl, z, hw, hc.next, hm⟩
theorem pure_main : pureOK 10000 := by
  obtain ⟨h3, e, z, i⟩ := start_ok (N := 10000) (by decide)
  exact ⟨h3, Inv0, e, z, i, fun t h ht hI op a b c d => step_ok (by decide) ht hI op a b c d⟩
