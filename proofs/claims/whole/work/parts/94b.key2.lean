/-! the class finds a key -/
theorem two_eq {N q : Nat} {s : Sh} {h : mH} (hN : 1000 < N) (w : WS s) (cs : CS h 2 s) (al : AL h 5 s) (p1 : s.2 = some q) (hq : q ∈ ans s) (hz : ∀ a, a < sN s → t1 s q a = false) : x_X2_findKeyOfTwo N 1 h = some (k2 s q) := by
  have n20 := w.n20
  unfold x_X2_findKeyOfTwo
  refine lpI (fun f (_ : Unit) i => x_X2_findKeyOfTwo_2 N 1 h f i) (fun a _ => ∀ a' b, a' < a → b < sN s → t2 s q a' b = false) (fun o => o = some (k2 s q)) (sN s) (fun f a _ ha hx => ?_) (fun f _ hx => ?_) N 0 () (by omega) (by omega) (fun a' b h1 => by omega)
  · show (∃ x : Unit, x_X2_findKeyOfTwo_2 N 1 h (f + 1) (nI a) = x_X2_findKeyOfTwo_2 N 1 h f (nI (a + 1)) ∧ _) ∨ x_X2_findKeyOfTwo_2 N 1 h (f + 1) (nI a) = _
    have le := last_eq (N := N) (t := 1) (told := nI (2 ^ (19 - a))) (D := fun y => cb s y a) (by omega) w cs al p1 hq (fun y hy => shl_and w hy ha) (hz a ha)
    have st : x_X2_findKeyOfTwo_2 N 1 h (f + 1) (nI a) = if fsI (t2 s q a) (sN s) = -9 then x_X2_findKeyOfTwo_2 N 1 h f (nI (a + 1)) else some ((((100 : Int32) * nI (a + 1)) + fsI (t2 s q a) (sN s)) + 1) := by
      rw [x_X2_findKeyOfTwo_2_s, ccells_eq (a := 1 + 1) w cs, Option.bind_some, if_neg (nI_ge ha (by omega)), bit_of a (by omega), Option.bind_some, nI_1]
      revert le
      cases x_X2_tellingApart N 1 (nI (2 ^ (19 - a))) h with
      | none => intro le; cases le
      | some M =>
        intro le
        rw [Option.bind_some] at le ⊢
        rw [le, Option.bind_some]
        rfl
    rw [st]
    rcases fsI_Fst (t2 s q a) (sN s) with ⟨a1, a2⟩ | ⟨k, a1, a2, a3, a4⟩
    · refine Or.inl ⟨(), by rw [if_pos a1], fun a' b h1 h2 => ?_⟩
      by_cases d : a' = a
      · rw [d]; exact a2 b h2
      · exact hx a' b (by omega) h2
    · refine Or.inr ?_
      rw [a3, if_neg (nI_n9 (by omega)), show (100 : Int32) = nI 100 from rfl, pk_mul, nI_add, nI_1]
      have ak : a < k := by
        rcases Nat.lt_trichotomy a k with e | e | e
        · exact e
        · rw [← e, t2_self, hz a ha] at a2; cases a2
        · rw [t2_comm, hx k a e ha] at a2; cases a2
      obtain ⟨d1, d2⟩ := dm2 (a := a) a1
      refine congrArg some (fsV_eq (Or.inr ⟨a * sN s + k, ?_, ?_, ?_, fun i hi => ?_⟩))
      · have := Nat.mul_le_mul_right (sN s) (show a + 1 ≤ sN s from ha)
        rw [Nat.succ_mul] at this
        omega
      · unfold p2
        rw [d1, d2, a2]
        simp [ak]
      · show _ = nI (100 * ((a * sN s + k) / sN s + 1) + (a * sN s + k) % sN s + 1)
        rw [d1, d2]
      · refine Bool.eq_false_iff.mpr fun hp => ?_
        unfold p2 at hp
        rw [Bool.and_eq_true, decide_eq_true_eq] at hp
        have hb := Nat.mod_lt i (show 0 < sN s by omega)
        have ei : i / sN s * sN s + i % sN s = i := by rw [Nat.mul_comm]; exact Nat.div_add_mod _ _
        rcases lexlt hb a1 (by rw [ei]; exact hi) with u | ⟨u, u'⟩
        · rw [hx _ _ u hb] at hp; cases hp.2
        · rw [u, a4 _ u'] at hp; cases hp.2
  · show x_X2_findKeyOfTwo_2 N 1 h (f + 1) (nI (sN s)) = _
    rw [x_X2_findKeyOfTwo_2_s, ccells_eq (a := 1 + 1) w cs, Option.bind_some, if_pos (nI_le (Nat.le_refl _) (by omega))]
    refine congrArg some (fsV_eq (Or.inl ⟨rfl, fun i hi => ?_⟩))
    unfold p2
    rw [hx _ _ (Nat.div_lt_of_lt_mul hi) (Nat.mod_lt i (show 0 < sN s by omega)), Bool.and_false]
theorem k2_no {s : Sh} (w : WS s) {q : Nat} (h0 : ∀ a, a < sN s → t1 s q a = false) (h : k2 s q = -9) : ∀ a b, a < sN s → b < sN s → t2 s q a b = false := by
  have n20 := w.n20
  have key : ∀ a b, a < b → b < sN s → t2 s q a b = false := fun a b hab hb => by
    have bd : ∀ k, k < sN s * sN s → 100 * (k / sN s + 1) + k % sN s + 1 < 2 ^ 31 := fun k hk => by
      have := Nat.div_lt_of_lt_mul hk
      have := Nat.mod_lt k (show 0 < sN s by omega)
      omega
    have := (fsV_9 bd).mp h (a * sN s + b) (by
      have := Nat.mul_le_mul_right (sN s) (show a + 1 ≤ sN s by omega)
      rw [Nat.succ_mul] at this
      omega)
    obtain ⟨d1, d2⟩ := dm2 (a := a) hb
    unfold p2 at this
    rw [d1, d2] at this
    simpa [hab] using this
  intro a b ha hb
  rcases Nat.lt_trichotomy a b with e | e | e
  · exact key a b e hb
  · rw [e, t2_self]; exact h0 b hb
  · rw [t2_comm]; exact key b a e ha
theorem reco3 (n i : Nat) : i = (i / (n * n) * n + i / n % n) * n + i % n := by
  have e1 : n * (i / n) + i % n = i := Nat.div_add_mod _ _
  have e2 : n * (i / n / n) + i / n % n = i / n := Nat.div_add_mod _ _
  rw [← Nat.div_div_eq_div_mul, Nat.mul_comm (i / n / n), e2, Nat.mul_comm (i / n), e1]
theorem three_eq {N q : Nat} {s : Sh} {h : mH} (hN : 1000 < N) (w : WS s) (cs : CS h 2 s) (al : AL h 5 s) (p1 : s.2 = some q) (hq : q ∈ ans s) (hz : ∀ a b, a < sN s → b < sN s → t2 s q a b = false) : x_X2_findKeyOfThree N 1 h = some (k3 s q) := by
  have n20 := w.n20
  unfold x_X2_findKeyOfThree
  refine lpI (fun f (_ : Unit) i => x_X2_findKeyOfThree_2 N 1 h f i) (fun a _ => ∀ a' b' c, a' < b' → b' < sN s → c < sN s → a' < a → t3 s q a' b' c = false) (fun o => o = some (k3 s q)) (sN s) (fun f a _ ha hx => ?_) (fun f _ hx => ?_) N 0 () (by omega) (by omega) (fun a' b c _ _ _ h1 => by omega)
  · show (∃ x : Unit, x_X2_findKeyOfThree_2 N 1 h (f + 1) (nI a) = x_X2_findKeyOfThree_2 N 1 h f (nI (a + 1)) ∧ _) ∨ x_X2_findKeyOfThree_2 N 1 h (f + 1) (nI a) = _
    rw [x_X2_findKeyOfThree_2_s, ccells_eq (a := 1 + 1) w cs, Option.bind_some, if_neg (nI_ge ha (by omega)), mlet_eq, nI_1]
    refine lpI (fun g (_ : Unit) i => x_X2_findKeyOfThree_17 N (x_X2_findKeyOfThree_2 N 1 h f) 1 (nI a) h g i) (fun b _ => a + 1 ≤ b ∧ ∀ b' c, a < b' → b' < b → c < sN s → t3 s q a b' c = false) (fun o => (∃ x : Unit, o = x_X2_findKeyOfThree_2 N 1 h f (nI (a + 1)) ∧ ∀ a' b' c, a' < b' → b' < sN s → c < sN s → a' < a + 1 → t3 s q a' b' c = false) ∨ o = some (k3 s q)) (sN s) (fun g b _ hb hy => ?_) (fun g _ hy => ?_) N (a + 1) () (by omega) (by omega) ⟨Nat.le_refl _, fun b' c h1 h2 => by omega⟩
    · show (∃ x : Unit, x_X2_findKeyOfThree_17 N (x_X2_findKeyOfThree_2 N 1 h f) 1 (nI a) h (g + 1) (nI b) = x_X2_findKeyOfThree_17 N (x_X2_findKeyOfThree_2 N 1 h f) 1 (nI a) h g (nI (b + 1)) ∧ _) ∨ ((∃ x : Unit, x_X2_findKeyOfThree_17 N (x_X2_findKeyOfThree_2 N 1 h f) 1 (nI a) h (g + 1) (nI b) = _ ∧ _) ∨ x_X2_findKeyOfThree_17 N (x_X2_findKeyOfThree_2 N 1 h f) 1 (nI a) h (g + 1) (nI b) = _)
      have ab : a < b := by omega
      have le := last_eq (N := N) (t := 1) (told := nI (2 ^ (19 - a)) ||| nI (2 ^ (19 - b))) (D := fun y => cb s y a || cb s y b) (by omega) w cs al p1 hq (fun y hy => by rw [and_or0, shl_and w hy ha, shl_and w hy hb, Bool.or_eq_false_iff]) (hz a b ha hb)
      have st : x_X2_findKeyOfThree_17 N (x_X2_findKeyOfThree_2 N 1 h f) 1 (nI a) h (g + 1) (nI b) = if fsI (t3 s q a b) (sN s) = -9 then x_X2_findKeyOfThree_17 N (x_X2_findKeyOfThree_2 N 1 h f) 1 (nI a) h g (nI (b + 1)) else some (((((10000 : Int32) * nI (a + 1)) + ((100 : Int32) * nI (b + 1))) + fsI (t3 s q a b) (sN s)) + 1) := by
        rw [x_X2_findKeyOfThree_17_s, ccells_eq (a := 1 + 1) w cs, Option.bind_some, if_neg (nI_ge hb (by omega)), bit_of a (by omega), Option.bind_some, bit_of b (by omega), Option.bind_some, nI_1, nI_1]
        revert le
        cases x_X2_tellingApart N 1 (nI (2 ^ (19 - a)) ||| nI (2 ^ (19 - b))) h with
        | none => intro le; cases le
        | some M =>
          intro le
          rw [Option.bind_some] at le ⊢
          rw [le, Option.bind_some]
          rfl
      rw [st]
      rcases fsI_Fst (t3 s q a b) (sN s) with ⟨a1, a2⟩ | ⟨k, a1, a2, a3, a4⟩
      · refine Or.inl ⟨(), by rw [if_pos a1], by omega, fun b' c h1 h2 h3 => ?_⟩
        by_cases d : b' = b
        · rw [d]; exact a2 c h3
        · exact hy.2 b' c h1 (by omega) h3
      · refine Or.inr (Or.inr ?_)
        rw [a3, if_neg (nI_n9 (by omega)), show (10000 : Int32) = nI 10000 from rfl, show (100 : Int32) = nI 100 from rfl, pk_mul, pk_mul, nI_add, nI_add, nI_1]
        have bk : b < k := by
          rcases Nat.lt_trichotomy b k with e | e | e
          · exact e
          · rw [← e, t3_s2, hz a b ha hb] at a2; cases a2
          · rcases Nat.lt_trichotomy a k with e' | e' | e'
            · rw [t3_p1, hy.2 k b e' e hb] at a2; cases a2
            · rw [← e', t3_s1, hz a b ha hb] at a2; cases a2
            · rw [t3_p2, hx k a b e' ha hb e'] at a2; cases a2
        obtain ⟨d1, d2, d3⟩ := dm3 (a := a) hb a1
        refine congrArg some (fsV_eq (Or.inr ⟨(a * sN s + b) * sN s + k, ?_, ?_, ?_, fun i hi => ?_⟩))
        · have m1 := Nat.mul_le_mul_right (sN s) (show a + 1 ≤ sN s from ha)
          rw [Nat.succ_mul] at m1
          have m2 := Nat.mul_le_mul_right (sN s) (show a * sN s + b + 1 ≤ sN s * sN s by omega)
          rw [Nat.succ_mul] at m2
          omega
        · unfold p3
          rw [d1, d2, d3, a2]
          simp [ab, bk]
        · unfold v3
          rw [d1, d2, d3]
        · refine Bool.eq_false_iff.mpr fun hp => ?_
          unfold p3 at hp
          rw [Bool.and_eq_true, Bool.and_eq_true, decide_eq_true_eq, decide_eq_true_eq] at hp
          obtain ⟨⟨hp1, hp2⟩, hp3⟩ := hp
          have hc := Nat.mod_lt i (show 0 < sN s by omega)
          have hb' := Nat.mod_lt (i / sN s) (show 0 < sN s by omega)
          have ei := reco3 (sN s) i
          rw [ei] at hi
          revert hp1 hp2 hp3 hc hb' hi
          generalize i / (sN s * sN s) = ia
          generalize i / sN s % sN s = ib
          generalize i % sN s = ic
          intro hi hp3 hp1 hp2 hc hb'
          rcases lexlt hc a1 hi with u | ⟨u, u'⟩
          · rcases lexlt hb' hb u with v | ⟨v, v'⟩
            · rw [hx ia ib ic hp1 hb' hc v] at hp3; cases hp3
            · subst v
              rw [hy.2 ib ic hp1 v' hc] at hp3; cases hp3
          · rw [Nat.mul_comm ia, Nat.mul_comm a] at u
            obtain ⟨x1, x2⟩ := mul_mod_uniq hb' hb u
            rw [x1, x2, a4 ic u'] at hp3; cases hp3
    · show (∃ x : Unit, x_X2_findKeyOfThree_17 N (x_X2_findKeyOfThree_2 N 1 h f) 1 (nI a) h (g + 1) (nI (sN s)) = _ ∧ _) ∨ _
      rw [x_X2_findKeyOfThree_17_s, ccells_eq (a := 1 + 1) w cs, Option.bind_some, if_pos (nI_le (Nat.le_refl _) (by omega)), nI_1]
      refine Or.inl ⟨(), rfl, fun a' b' c h1 h2 h3 h4 => ?_⟩
      by_cases d : a' = a
      · subst d; exact hy.2 b' c h1 h2 h3
      · exact hx a' b' c h1 h2 h3 (by omega)
  · show x_X2_findKeyOfThree_2 N 1 h (f + 1) (nI (sN s)) = _
    rw [x_X2_findKeyOfThree_2_s, ccells_eq (a := 1 + 1) w cs, Option.bind_some, if_pos (nI_le (Nat.le_refl _) (by omega))]
    refine congrArg some (fsV_eq (Or.inl ⟨rfl, fun i hi => ?_⟩))
    unfold p3
    have hc := Nat.mod_lt i (show 0 < sN s by omega)
    have hb' := Nat.mod_lt (i / sN s) (show 0 < sN s by omega)
    by_cases l : i / (sN s * sN s) < i / sN s % sN s
    · rw [hx _ _ _ l hb' hc (Nat.lt_trans l hb'), Bool.and_false]
    · simp [l]
theorem k1_of {s : Sh} {q : Nat} : (fsI (t1 s q) (sN s) = -9 ∧ k1 s q = -9 ∧ ∀ a, a < sN s → t1 s q a = false) ∨ ∃ a, a < sN s ∧ fsI (t1 s q) (sN s) = nI a ∧ k1 s q = nI (a + 1) := by
  rcases fsI_Fst (t1 s q) (sN s) with ⟨a1, a2⟩ | ⟨k, a1, a2, a3, a4⟩
  · exact Or.inl ⟨a1, (fsV_eq (Or.inl ⟨rfl, a2⟩)).symm, a2⟩
  · exact Or.inr ⟨k, a1, a3, (fsV_eq (Or.inr ⟨k, a1, a2, rfl, a4⟩)).symm⟩
theorem cfindKey {N q : Nat} {s : Sh} {h : mH} (hN : 1000 < N) (w : WS s) (cs : CS h 2 s) (al : AL h 5 s) (p1 : s.2 = some q) (hq : q ∈ ans s) : x_X2_findKey N 1 h = some (kC s q).2 := by
  have n20 := w.n20
  have l310 := ans_310 w
  have pc : mgi h (1 + 1) 6 = shl s q := by rw [← plC_some p1]; exact cs.2.2.2.2.2.2
  have sz : mgi h (1 + 4) 3 = nI (ans s).length := al.2.2.1
  unfold x_X2_findKey kC
  rw [pc, if_pos (shl_pos w (ans_lt hq)), sz]
  by_cases c0 : t0 s q = true
  · rw [if_pos c0, (t0_len hq).mp c0, if_neg (by decide)]
  · have c0' : t0 s q = false := by simpa using c0
    have le := last_eq (N := N) (t := 1) (told := 0) (D := fun _ => false) (by omega) w cs al p1 hq (fun y hy => ⟨fun _ => rfl, fun _ => b_ext fun i hi => by rw [b_and, b_0, Bool.and_false]⟩) c0'
    have e1 : (fun k => tlG s q (fun y => false || cb s y k)) = t1 s q := funext fun k => tlG_congr fun y => Bool.false_or _
    rw [e1] at le
    have ne : ¬ nI (ans s).length = (1 : Int32) := fun e => c0 ((t0_len hq).mpr ((nI_eq (b := 1) (by omega) (by decide)).mp e))
    rw [if_neg c0, if_pos ne]
    revert le
    cases x_X2_tellingApart N 1 0 h with
    | none => intro le; cases le
    | some M =>
      intro le
      rw [Option.bind_some] at le ⊢
      rw [le, Option.bind_some]
      rcases k1_of (s := s) (q := q) with ⟨x1, x2, x3⟩ | ⟨a, x1, x2, x3⟩
      · rw [x1, if_pos rfl, x2, if_neg (not_not_intro rfl), two_eq hN w cs al p1 hq x3, Option.bind_some]
        by_cases y2 : k2 s q = -9
        · rw [if_pos y2, if_neg (not_not_intro y2), three_eq hN w cs al p1 hq (k2_no w x3 y2), Option.bind_some]
          by_cases y3 : k3 s q = -9
          · rw [if_neg (not_not_intro y3), y3]
          · rw [if_pos y3]
        · rw [if_neg y2, if_pos y2]
      · rw [x2, if_neg (nI_n9 (by omega)), x3, if_pos (nI_n9 (by omega)), nI_1]
theorem dg38 {N : Nat} {h : mH} {f c v : Nat} (hv : v < 2 ^ 31) : x_X8_key_38 N h (f + 1) (nI c) (nI v) = if v = 0 then some (nI c) else x_X8_key_38 N h f (nI (c + 1)) (nI (v / 100)) := by
  rw [x_X8_key_38_s]
  by_cases e : v = 0
  · rw [if_pos e, e, if_pos (by decide)]
  · rw [if_neg e, if_neg (nI_nle (by omega) hv), mlet_eq, nI_1, show (100 : Int32) = nI 100 from rfl, pk_div hv (by decide) (by decide)]
theorem dg_key {N v : Nat} {h : mH} (hN : 10 < N) (hv : v < 1000000) : x_X8_key_38 N h N 0 (nI v) = some (if v = 0 then 0 else if v < 100 then 1 else if v < 10000 then 2 else 3) := by
  obtain ⟨M, hM⟩ : ∃ M, N = M + 1 + 1 + 1 + 1 := ⟨N - 4, by omega⟩
  have key : ∀ K, x_X8_key_38 K h (M + 1 + 1 + 1 + 1) (nI 0) (nI v) = some (if v = 0 then 0 else if v < 100 then 1 else if v < 10000 then 2 else 3) := fun K => by
    rw [dg38 (by omega)]
    by_cases a : v = 0
    · rw [if_pos a, if_pos a]; rfl
    rw [if_neg a, if_neg a, dg38 (by omega)]
    by_cases b : v < 100
    · rw [if_pos (by omega), if_pos b]; rfl
    rw [if_neg (by omega), if_neg b, dg38 (by omega)]
    by_cases c : v < 10000
    · rw [if_pos (by omega), if_pos c]; rfl
    rw [if_neg (by omega), if_neg c, dg38 (by omega), if_pos (by omega)]
    rfl
  have := key N
  rw [← hM] at this
  exact this
theorem kC_val {s : Sh} (w : WS s) (q : Nat) : ((kC s q).1 = -9 ∧ (kC s q).2 = -9) ∨ ∃ v, v < 1000000 ∧ (kC s q).2 = nI v ∧ (kC s q).1 = (if v = 0 then 0 else if v < 100 then 1 else if v < 10000 then 2 else 3) := by
  have n20 := w.n20
  unfold kC
  by_cases c0 : t0 s q = true
  · rw [if_pos c0]
    exact Or.inr ⟨0, by decide, rfl, rfl⟩
  rw [if_neg c0]
  rcases fsV_Fst (t1 s q) (fun a => a + 1) (sN s) with ⟨a1, a2⟩ | ⟨k, a1, a2, a3, a4⟩
  · have e1 : k1 s q = -9 := a1
    rw [if_neg (not_not_intro e1)]
    rcases fsV_Fst (p2 s q) (fun k => 100 * (k / sN s + 1) + k % sN s + 1) (sN s * sN s) with ⟨b1, b2⟩ | ⟨k, b1, b2, b3, b4⟩
    · have e2 : k2 s q = -9 := b1
      rw [if_neg (not_not_intro e2)]
      rcases fsV_Fst (p3 s q) (v3 s) (sN s * sN s * sN s) with ⟨d1, d2⟩ | ⟨k, d1, d2, d3, d4⟩
      · have e3 : k3 s q = -9 := d1
        rw [if_neg (not_not_intro e3)]
        exact Or.inl ⟨rfl, rfl⟩
      · have e3 : k3 s q = nI (v3 s k) := d3
        have x1 : k / (sN s * sN s) < sN s := Nat.div_lt_of_lt_mul d1
        have x2 := Nat.mod_lt (k / sN s) (show 0 < sN s by omega)
        have x3 := Nat.mod_lt k (show 0 < sN s by omega)
        have l1 : v3 s k < 1000000 := by unfold v3; omega
        have l2 : ¬ v3 s k < 10000 := by unfold v3; generalize k / (sN s * sN s) = u; omega
        rw [e3, if_pos (nI_n9 (by omega))]
        refine Or.inr ⟨v3 s k, l1, rfl, ?_⟩
        rw [if_neg (by omega), if_neg (by omega), if_neg l2]
    · have e2 : k2 s q = nI (100 * (k / sN s + 1) + k % sN s + 1) := b3
      have x1 : k / sN s < sN s := Nat.div_lt_of_lt_mul b1
      have x3 := Nat.mod_lt k (show 0 < sN s by omega)
      rw [e2, if_pos (nI_n9 (by omega))]
      revert x1
      generalize k / sN s = u
      intro x1
      refine Or.inr ⟨_, ?_, rfl, ?_⟩
      · omega
      · rw [if_neg (by omega), if_neg (by omega), if_pos (by omega)]
  · have e1 : k1 s q = nI (k + 1) := a3
    rw [e1, if_pos (nI_n9 (by omega))]
    refine Or.inr ⟨k + 1, by omega, rfl, ?_⟩
    rw [if_neg (by omega), if_pos (by omega)]
theorem ckey_eq {N q v : Nat} {s : Sh} {h : mH} (hN : 1000 < N) (w : WS s) (cs : CS h 2 s) (al : AL h 5 s) (p1 : s.2 = some q) (hq : q ∈ ans s) (hv : v < 2) : x_X8_key N (nI v) h = some (if ¬ nI v = 0 then (kC s q).2 else (kC s q).1) := by
  have hd : x_X8_key N (nI v) h = x_X8_key_12 N (nI v) h := by
    unfold x_X8_key
    rcases (by omega : v = 0 ∨ v = 1) with e | e
    · subst e; rw [if_pos (by decide)]
    · subst e; rw [if_neg (by decide), if_pos (by decide)]
  rw [hd]
  unfold x_X8_key_12
  rw [cfindKey hN w cs al p1 hq, Option.bind_some]
  rcases kC_val w q with ⟨a1, a2⟩ | ⟨u, a1, a2, a3⟩
  · rw [a1, a2, if_pos rfl]
    split <;> rfl
  · rw [a2, if_neg (nI_n9 (by omega))]
    rcases (by omega : v = 0 ∨ v = 1) with e | e
    · subst e
      rw [if_pos (by decide), if_neg (by decide), dg_key (by omega) a1, a3]
    · subst e
      rw [if_neg (by decide), if_pos (by decide)]
