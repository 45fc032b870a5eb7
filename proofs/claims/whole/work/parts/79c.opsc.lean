theorem drop_last {A : List Sh} (h : A ≠ []) : ∃ B s, A = B ++ [s] := ⟨A.dropLast, A.getLast h, (List.dropLast_concat_getLast h).symm⟩
theorem S_undo {N t : Nat} {h : mH} {z : St} (hN : 1000 < N) (ht : t < 512) (hw : WF z) (hc : IC t h z) (hm : IM h z) : GW t (xcW (x_X8_undo N h) (fun h1 => x_X9_undo N h1)) := by
  have ac : iA h z.2.2.1 := hc.2.2.2.2.2.2.1
  have kp : iK h z.2.2.2.1 := hc.2.2.2.2.2.2.2.1
  have hl := hw.2.2.1.1
  have n3 : mgi h 20 2 = nI z.2.2.1.length := by obtain ⟨n, n1, n2, n3, n4⟩ := ac; exact n3
  by_cases c : z.2.2.1 = []
  · refine ok_W (r := -3) (z' := z) hm hw ?_ (fun h1 hm1 => ?_)
    · refine ⟨h, ?_, hc.next, frC.rfl⟩
      unfold x_X8_undo
      rw [n3, c, if_neg (fun q => q rfl)]
    · refine ⟨_, ?_, hm1.thr 0, frM_i (by decide)⟩
      unfold x_X9_undo
      simp only [mlet_eq]
      rw [(hm1.thr 0).2.2.1.1, c, if_neg (fun q => q rfl)]
  · obtain ⟨B, s, e⟩ := drop_last c
    have hB : B.length < 14 := by rw [e] at hl; simp at hl; omega
    have ws := hw.2.2.1.2 s (by rw [e]; simp)
    refine ok_W (r := nI B.length) (z' := (z.1, s, B, z.2.2.2.1, z.2.2.2.2.1, z.2.2.2.2.2)) hm ?_ ?_ (fun h1 hm1 => ?_)
    · exact ⟨hw.1, ws, ⟨by show B.length ≤ 14; omega, fun x hx => hw.2.2.1.2 x (by rw [e]; exact List.mem_append.mpr (Or.inl hx))⟩, hw.2.2.2⟩
    · rw [e] at ac
      obtain ⟨h1, e1, c1, a1, f1, g1⟩ := takeBack_eq hB ac ws.1
      obtain ⟨h', b1, b2, b3, b4, b5, b6⟩ := C_act (N := N) (h1 := h1) (s' := s) (A' := B) (K' := z.2.2.2.1) (by omega) (by omega) hc hw ws.1 (PB_of ws.2) c1 (fun b k hb => f1 b k (by omega) (by omega) (by omega) (by omega)) g1 a1 (kp.congr (fun b x1 x2 k => f1 b k (by omega) (by omega) (by omega) (by omega)))
      rw [stl_self ws.2] at b2
      refine ⟨h', ?_, b2, b5⟩
      unfold x_X8_undo
      rw [n3, e, if_pos (nI_ne0 (by simp) (by simp; omega)), e1]
      simp only [Option.bind_some]
      rw [b1]
      simp only [Option.bind_some]
      rw [b4]
    · have hb := (hm1.thr 0).2.2.1
      rw [e] at hb
      simp only [List.length_append, List.length_cons, List.length_nil, Nat.zero_add] at hb
      generalize hh : msi (msi h1 82 0 0) 82 7 (nI B.length) = h2
      have F : ∀ b k, ¬ (b = 82 ∧ k = 7) → mgi h2 b k = mgi (msi h1 82 0 0) b k := fun b k q => by rw [← hh, mgi_msi, if_neg q]
      have FL : ∀ b k, mgl h2 b k = mgl (msi h1 82 0 0) b k := fun b k => by rw [← hh]; rfl
      obtain ⟨h3, e3, c3, f3, g3⟩ := undo27 (N := N) (n := B.length) (h := h2) (by omega) hB (by rw [← hh, mgi_msi, if_pos ⟨rfl, rfl⟩])
      refine ⟨h3, ?_, ?_, (frM_i (h := h1) (a := 82) (k := 0) (v := 0) (by decide)).trans ?_⟩
      · unfold x_X9_undo
        simp only [mlet_eq]
        rw [hb.1, if_pos (nI_ne0 (by omega) (by omega)), nI_pred, hh]
        exact e3
      · refine (hm1.thr 0).board (fun b k q => ?_) ?_ ?_ ?_ ?_ ?_ ?_
        · rw [f3 b k (by omega), F b k (by omega)]
        · rw [f3 82 2 (by omega), F 82 2 (by omega)]
        · rw [f3 82 10 (by omega), F 82 10 (by omega)]
        · rw [g3, FL]
        · refine (hb.2 B.length s (by simp)).copy ws.1 (fun k hk => ?_)
          rw [Nat.zero_add, c3 k hk, F 87 _ (by omega)]
        · refine ⟨?_, fun j s' hj => ?_⟩
          · rw [f3 82 7 (by omega), ← hh, mgi_msi, if_pos ⟨rfl, rfl⟩]
          · have hjl : j < B.length := by rw [List.getElem?_eq_some_iff] at hj; exact hj.1
            exact (hb.2 j s' (by rw [List.getElem?_append, if_pos hjl]; exact hj)).congr (fun k => by rw [f3 87 k (by omega), F 87 k (by omega)])
        · have km : iKM (msi h1 82 0 0) z.2.2.2.1 := (hm1.thr 0).2.2.2.1
          exact km.congr (fun k => by rw [f3 _ k (by omega), F _ k (by omega)]) (fun k => by rw [f3 _ k (by omega), F _ k (by omega)])
      · exact fun b q => ⟨fun k => by rw [f3 b k (by omega), F b k (by omega)], fun k => by rw [g3, FL]⟩
theorem S_keep {N t : Nat} {h : mH} {z : St} (hN : 1000 < N) (hw : WF z) (hc : IC t h z) (hm : IM h z) (a : Int32) : GW t (xcW (x_X8_keep a h) (fun h1 => x_X9_keep N a h1)) := by
  have w := hw.2.1.1
  have cs := hc.2.1
  rcases in_cases a (n := 2) (by decide) with ⟨i, hi, rfl⟩ | ⟨cv, c⟩
  · refine ok_W (r := nI (sN z.2.1)) (z' := (z.1, z.2.1, z.2.2.1, (fun j => if j = i then some z.2.1 else z.2.2.2.1 j), z.2.2.2.2.1, z.2.2.2.2.2)) hm ?_ ?_ (fun h1 hm1 => ?_)
    · refine ⟨hw.1, hw.2.1, hw.2.2.1, fun j s hs => ?_, hw.2.2.2.2⟩
      have hs' : (if j = i then some z.2.1 else z.2.2.2.1 j) = some s := hs
      split at hs'
      · cases hs'; exact hw.2.1
      · exact hw.2.2.2.1 j s hs'
    · obtain ⟨h1, e1, c1, f1⟩ := become_eq (t := 76 + 3 * i) (p := 2) w (by omega) cs
      have F : ∀ b k, b < 75 ∨ 82 ≤ b → mgi (msi h1 75 i 1) b k = mgi h b k := fun b k hb => by
        rw [mgi_msi, if_neg (by omega), f1.1 b k (by omega) (by omega) (by omega)]
      have FL : ∀ b k, mgl (msi h1 75 i 1) b k = mgl h b k := fun b k => f1.2 b k
      have cs1 : CS (msi h1 75 i 1) 2 z.2.1 := cs.congr (fun k => F _ k (by omega)) (fun k => F _ k (by omega)) (fun k => F _ k (by omega))
      refine ⟨msi h1 75 i 1, ?_, ?_, fun b hb => ⟨fun k => F b k (by omega), fun k => FL b k⟩⟩
      · unfold x_X8_keep
        rw [if_neg (nI_pos (by omega)), if_pos (show nI i < (2 : Int32) from nI_lt (b := 2) hi (by decide)), mck_ok (vp_in_nI hi (by decide)), nI_clamp (by omega), e1]
        simp only [Option.bind_some]
        rw [mck_ok (vp_in_nI hi (by decide))]
        simp only [mlet_eq]
        unfold x_X6_cells
        simp only [Option.bind_some]
        rw [cs1.1, cs1.2.1, pk_mul]
        rfl
      · obtain ⟨⟨a1, a2⟩, b, c, ⟨ed, d1, d2, e', d3, d4⟩, f, g, n, k, ⟨l1, l2, l3⟩, o⟩ := hc
        have n' : iA h z.2.2.1 := n
        have k' : iK h z.2.2.2.1 := k
        refine ⟨⟨by rw [F 15 _ (by decide)]; exact a1, fun k hk => by rw [F 16 _ (by decide)]; exact a2 k hk⟩, cs1, c.congr (fun k => F _ k (by decide)) (fun k => F _ k (by decide)) (fun k => F _ k (by decide)) (fun k => FL 5 k), ⟨ed, by omega, by rw [F 5 _ (by decide)]; exact d2, e', d3, by rw [F 67 _ (by decide)]; exact d4⟩, f.congr (fun k => F 67 k (by decide)) (fun k => F 68 k (by decide)) (F 5 4 (by decide)), ?_, n'.congr (fun b x1 x2 k => F b k (by omega)), fun j hj => ⟨?_, fun s hs => ?_⟩, ⟨by rw [F 0 _ (by decide)]; exact l1, by rw [F 0 _ (by decide)]; exact l2, by rw [F 0 _ (by decide)]; exact l3⟩, by rw [FL]; exact o⟩
        · rcases g with g | ⟨s, g1, g2⟩
          · exact Or.inl (by rw [FL]; exact g)
          · exact Or.inr ⟨s, g1, g2.congr (fun k => F _ k (by decide)) (fun k => F _ k (by decide)) (fun k => F _ k (by decide)) (fun k => FL 12 k)⟩
        · show mgi (msi h1 75 i 1) 75 j = if (if j = i then some z.2.1 else z.2.2.2.1 j).isSome then 1 else 0
          rw [mgi_msi]
          by_cases q : j = i
          · rw [if_pos ⟨rfl, q⟩, if_pos q]
            rfl
          · rw [if_neg (fun x => q x.2), if_neg q, f1.1 75 j (by omega) (by omega) (by omega)]
            exact (k' j hj).1
        · have hs' : (if j = i then some z.2.1 else z.2.2.2.1 j) = some s := hs
          by_cases q : j = i
          · rw [if_pos q] at hs'
            cases hs'
            rw [q]
            exact c1.congr (fun k => by rw [mgi_msi, if_neg (by omega)]) (fun k => by rw [mgi_msi, if_neg (by omega)]) (fun k => by rw [mgi_msi, if_neg (by omega)])
          · rw [if_neg q] at hs'
            exact ((k' j hj).2 s hs').congr (fun k => by rw [mgi_msi, if_neg (by omega), f1.1 _ k (by omega) (by omega) (by omega)]) (fun k => by rw [mgi_msi, if_neg (by omega), f1.1 _ k (by omega) (by omega) (by omega)]) (fun k => by rw [mgi_msi, if_neg (by omega), f1.1 _ k (by omega) (by omega) (by omega)])
    · have ms2 : MS (msi (msi h1 82 0 0) 89 i 1) 85 0 z.2.1 := (hm1.thr 0).2.1.congr (fun k => by rw [mgi_msi, if_neg (by omega)])
      obtain ⟨h3, e3, c3, f3, g3⟩ := keep26 (N := N) (n := i) (by omega) hi ms2
      have F : ∀ b k, b ≠ 88 → b ≠ 89 → mgi h3 b k = mgi (msi h1 82 0 0) b k := fun b k x1 x2 => by
        rw [f3 b k (by omega), mgi_msi, if_neg (by omega)]
      refine ⟨h3, ?_, ?_, (frM_i (h := h1) (a := 82) (k := 0) (v := 0) (by decide)).trans ?_⟩
      · unfold x_X9_keep
        simp only [mlet_eq]
        rw [show (1 : Int64) = (nI 1).toInt64 by decide, inN _ (by decide), if_pos ⟨i, hi, rfl⟩]
        simp only [Option.bind_some]
        rw [if_pos (by decide), mck_ok (vp_in_nI hi (by decide)), nI_clamp (by omega)]
        exact e3
      · refine (hm1.thr 0).board (fun b k q => F b k (by omega) (by omega)) (F 82 2 (by omega) (by omega)) (F 82 10 (by omega) (by omega)) (g3 82 13) ((hm1.thr 0).2.1.congr (fun k => F 85 k (by omega) (by omega))) ?_ (fun j hj => ⟨?_, fun s hs => ?_⟩)
        · have bb : iB (msi h1 82 0 0) z.2.2.1 := (hm1.thr 0).2.2.1
          exact bb.congr (F _ _ (by omega) (by omega)) (fun k => F _ _ (by omega) (by omega))
        · show mgi h3 89 j = if (if j = i then some z.2.1 else z.2.2.2.1 j).isSome then 1 else 0
          rw [f3 89 j (by omega), mgi_msi]
          by_cases q : j = i
          · rw [if_pos ⟨rfl, q⟩, if_pos q]
            rfl
          · rw [if_neg (fun x => q x.2), if_neg q]
            exact ((hm1.thr 0).2.2.2.1 j hj).1
        · have hs' : (if j = i then some z.2.1 else z.2.2.2.1 j) = some s := hs
          by_cases q : j = i
          · rw [if_pos q] at hs'
            cases hs'
            rw [q]
            exact ms2.copy w (fun k hk => by rw [c3 k hk, Nat.zero_add])
          · rw [if_neg q] at hs'
            refine (((hm1.thr 0).2.2.2.1 j hj).2 s hs').copy (hw.2.2.2.1 j s hs').1 (fun k hk => ?_)
            rw [f3 88 _ (by omega), mgi_msi, if_neg (by omega)]
      · exact fun b q => ⟨fun k => F b k (by omega) (by omega), fun k => g3 b k⟩
  · refine ok_W (r := -1) (z' := z) hm hw ?_ (fun h1 hm1 => ?_)
    · refine ⟨h, ?_, hc.next, frC.rfl⟩
      unfold x_X8_keep
      by_cases q : a < 0
      · rw [if_pos q]
      · rw [if_neg q, if_neg (show ¬ a < (2 : Int32) from fun r => (fa_of_lt r).2.1 (cv.resolve_left q))]
    · refine ⟨_, ?_, hm1.thr 0, frM_i (by decide)⟩
      unfold x_X9_keep
      simp only [mlet_eq]
      rw [show (1 : Int64) = (nI 1).toInt64 by decide, inN _ (by decide), if_neg c]
      simp only [Option.bind_some]
      rw [if_neg (by decide)]
theorem S_again {N t : Nat} {h : mH} {z : St} (hN : 1000 < N) (ht : t < 512) (hw : WF z) (hc : IC t h z) (hm : IM h z) (a : Int32) : GW t (xcW (x_X8_again N a h) (fun h1 => x_X9_again N a h1)) := by
  have kp : iK h z.2.2.2.1 := hc.2.2.2.2.2.2.2.1
  rcases in_cases a (n := 2) (by decide) with ⟨i, hi, rfl⟩ | ⟨cv, c⟩
  · have ein : x_X9_in (nI i).toInt64 0 (1 : Int64) = some 1 := by
      rw [show (1 : Int64) = (nI 1).toInt64 by decide, inN _ (by decide), if_pos ⟨i, hi, rfl⟩]
    cases hK : z.2.2.2.1 i with
    | none =>
      refine ok_W (r := -3) (z' := z) hm hw ?_ (fun h1 hm1 => ?_)
      · refine ⟨h, ?_, hc.next, frC.rfl⟩
        unfold x_X8_again
        rw [if_neg (nI_pos (by omega)), if_pos (show nI i < (2 : Int32) from nI_lt (b := 2) hi (by decide)), mck_ok (vp_in_nI hi (by decide)), nI_clamp (by omega), (kp i hi).1, hK, if_neg (fun q => q rfl)]
      · refine ⟨_, ?_, hm1.thr 0, frM_i (by decide)⟩
        unfold x_X9_again
        simp only [mlet_eq]
        rw [ein]
        simp only [Option.bind_some]
        rw [if_pos (by decide), mck_ok (vp_in_nI hi (by decide)), nI_clamp (by omega), ((hm1.thr 0).2.2.2.1 i hi).1, hK, if_neg (fun q => q rfl)]
    | some s =>
      have ws := hw.2.2.2.1 i s hK
      refine ok_W (r := nI (sN s)) (z' := (z.1, s, [], z.2.2.2.1, z.2.2.2.2.1, z.2.2.2.2.2)) hm ?_ ?_ (fun h1 hm1 => ?_)
      · exact ⟨hw.1, ws, ⟨by show 0 ≤ 14; omega, fun x hx => by cases hx⟩, hw.2.2.2⟩
      · have ck := (kp i hi).2 s hK
        obtain ⟨h1, e1, c1, f1⟩ := become_eq (t := 2) (p := 76 + 3 * i) ws.1 (by omega) ck
        have ac : iA h z.2.2.1 := hc.2.2.2.2.2.2.1
        obtain ⟨h', b1, b2, b3, b4, b5, b6⟩ := C_act (N := N) (h1 := h1) (s' := s) (A' := z.2.2.1) (K' := z.2.2.2.1) (by omega) (by omega) hc hw ws.1 (PB_of ws.2) c1 (fun b k hb => f1.1 b k (by omega) (by omega) (by omega)) f1.2 (ac.congr (fun b x1 x2 k => f1.1 b k (by omega) (by omega) (by omega))) (kp.congr (fun b x1 x2 k => f1.1 b k (by omega) (by omega) (by omega)))
        rw [stl_self ws.2] at b2 b6
        have cs7 : CS (msi h' 20 2 0) 2 s := b6.congr (fun k => by rw [mgi_msi, if_neg (by omega)]) (fun k => by rw [mgi_msi, if_neg (by omega)]) (fun k => by rw [mgi_msi, if_neg (by omega)])
        refine ⟨msi h' 20 2 0, ?_, ?_, b5.trans (frC_i (by decide))⟩
        · unfold x_X8_again
          rw [if_neg (nI_pos (by omega)), if_pos (show nI i < (2 : Int32) from nI_lt (b := 2) hi (by decide)), mck_ok (vp_in_nI hi (by decide)), nI_clamp (by omega), (kp i hi).1, hK, if_pos (by simp), mck_ok (vp_in_nI hi (by decide)), e1]
          simp only [Option.bind_some]
          rw [b1]
          simp only [Option.bind_some, mlet_eq]
          unfold x_X6_cells
          simp only [Option.bind_some]
          rw [cs7.1, cs7.2.1, pk_mul]
          rfl
        · have F : ∀ b k, b ≠ 20 → mgi (msi h' 20 2 0) b k = mgi h' b k := fun b k hb => by rw [mgi_msi, if_neg (by omega)]
          obtain ⟨⟨a1, a2⟩, b, c, ⟨ed, d1, d2, e', d3, d4⟩, f, g, ⟨n, n1, n2, n3, n4⟩, k, ⟨l1, l2, l3⟩, o⟩ := b2
          have k' : iK h' z.2.2.2.1 := k
          refine ⟨⟨by rw [F 15 _ (by decide)]; exact a1, fun k hk => by rw [F 16 _ (by decide)]; exact a2 k hk⟩, cs7, AL.congr (h := h') (fun k => F _ k (by decide)) (fun k => F _ k (by decide)) (fun k => F _ k (by decide)) (fun k => rfl) c, ⟨ed, by omega, by rw [F 5 _ (by decide)]; exact d2, e', d3, by rw [F 67 _ (by decide)]; exact d4⟩, f.congr (fun k => F 67 k (by decide)) (fun k => F 68 k (by decide)) (F 5 4 (by decide)), ?_, ⟨n, n1, by rw [mgi_msi, if_neg (by omega)]; exact n2, by rw [mgi_msi, if_pos ⟨rfl, rfl⟩]; rfl, fun j s hj => by simp at hj⟩, k'.congr (fun b x1 x2 k => F b k (by omega)), ⟨by rw [F 0 _ (by decide)]; exact l1, by rw [F 0 _ (by decide)]; exact l2, by rw [F 0 _ (by decide)]; exact l3⟩, o⟩
          rcases g with g | ⟨s, g1, g2⟩
          · exact Or.inl g
          · exact Or.inr ⟨s, g1, AL.congr (h := h') (fun k => F _ k (by decide)) (fun k => F _ k (by decide)) (fun k => F _ k (by decide)) (fun k => rfl) g2⟩
      · have mk := ((hm1.thr 0).2.2.2.1 i hi).2 s hK
        obtain ⟨h3, e3, m3, d3, f3, g3⟩ := again31 (N := N) (n := i) (by omega) hi ws.1 mk
        refine ⟨h3, ?_, ?_, (frM_i (h := h1) (a := 82) (k := 0) (v := 0) (by decide)).trans ?_⟩
        · unfold x_X9_again
          simp only [mlet_eq]
          rw [ein]
          simp only [Option.bind_some]
          rw [if_pos (by decide), mck_ok (vp_in_nI hi (by decide)), nI_clamp (by omega), ((hm1.thr 0).2.2.2.1 i hi).1, hK, if_pos (by simp)]
          exact e3
        · refine (hm1.thr 0).board (fun b k q => f3 b k (by omega) (by omega)) (f3 82 2 (by omega) (by omega)) (f3 82 10 (by omega) (by omega)) (g3 82 13) m3 ⟨d3, fun j s hj => by simp at hj⟩ ?_
          have km : iKM (msi h1 82 0 0) z.2.2.2.1 := (hm1.thr 0).2.2.2.1
          exact km.congr (fun k => f3 _ k (by omega) (by omega)) (fun k => f3 _ k (by omega) (by omega))
        · exact fun b q => ⟨fun k => f3 b k (by omega) (by omega), fun k => g3 b k⟩
  · refine ok_W (r := -1) (z' := z) hm hw ?_ (fun h1 hm1 => ?_)
    · refine ⟨h, ?_, hc.next, frC.rfl⟩
      unfold x_X8_again
      by_cases q : a < 0
      · rw [if_pos q]
      · rw [if_neg q, if_neg (show ¬ a < (2 : Int32) from fun r => (fa_of_lt r).2.1 (cv.resolve_left q))]
    · refine ⟨_, ?_, hm1.thr 0, frM_i (by decide)⟩
      unfold x_X9_again
      simp only [mlet_eq]
      rw [show (1 : Int64) = (nI 1).toInt64 by decide, inN _ (by decide), if_neg c]
      simp only [Option.bind_some]
      rw [if_neg (by decide)]
