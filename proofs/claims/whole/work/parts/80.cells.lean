/-! cell, odds, ask -/
def yesN (s : Sh) (k : Nat) : Nat := fb_ct (fun j => cb s ((ans s).getD j 0) k) (ans s).length
def sureS (s : Sh) (k : Nat) : Int32 := if (ans s).length = 0 then -9 else if yesN s k = 0 then 0 else if yesN s k = (ans s).length then 1 else 2
theorem and_bit0 (x : Int32) {j : Nat} (hj : j < 31) : x &&& nI (2 ^ j) = 0 ↔ bt x j = false := by
  constructor
  · intro e
    have := congrArg (fun y => bt y j) e
    simp only [b_and, b_0] at this
    rw [bt_nI _ _ (by omega), Nat.testBit_two_pow] at this
    simpa using this
  · intro e
    refine b_ext fun i hi => ?_
    rw [b_and, b_0, bt_nI _ _ hi, Nat.testBit_two_pow]
    by_cases q : j = i
    · subst q; simp [e]
    · simp [q]
theorem shl_and0 {s : Sh} (w : WS s) {q k : Nat} (hq : q < 2 ^ sN s) (hk : k < sN s) : shl s q &&& nI (2 ^ (19 - k)) = 0 ↔ cb s q k = false := by
  have n20 := w.n20
  rw [and_bit0 _ (by omega), shl_bit w (by omega) hq]
  have h1 : 19 - k < 20 := by omega
  have h2 : 19 - (19 - k) = k := by omega
  simp [h1, h2, hk]
theorem yesAt_eq {N a k : Nat} {s : Sh} {h : mH} (hN : 400 < N) (w : WS s) (al : AL h a s) (hk : k < sN s) : x_X1_yesAt N a (nI k) h = some (nI (yesN s k)) := by
  have n20 := w.n20
  have l310 := ans_310 w
  unfold x_X1_yesAt
  rw [bit_of k (by omega)]
  simp only [Option.bind_some]
  refine lpV (fun f (x : Int32) i => x_X1_yesAt_10 N a (nI (2 ^ (19 - k))) h f x i) (fun j => nI (fb_ct (fun j => cb s ((ans s).getD j 0) k) j)) (ans s).length _ (fun f j hj => ?_) (fun f => ?_) (by omega)
  · show x_X1_yesAt_10 N a (nI (2 ^ (19 - k))) h (f + 1) _ (nI j) = x_X1_yesAt_10 N a (nI (2 ^ (19 - k))) h f _ (nI (j + 1))
    rw [x_X1_yesAt_10_s, al.2.2.1, if_neg (nI_ge hj (by omega)), mck_ok (vp_in_nI (by omega) (by decide)), nI_clamp (by omega), al.2.2.2.1 j hj, mlet_eq, nI_1, fb_ct_succ]
    congr 1
    have hq := ans_lt (getD_mem hj)
    by_cases c : cb s ((ans s).getD j 0) k = true
    · rw [if_neg (fun z => by rw [shl_and0 w hq hk, c] at z; cases z), if_pos c, nI_1]
    · rw [if_pos ((shl_and0 w hq hk).mpr (by simpa using c)), if_neg c]
      simp
  · show x_X1_yesAt_10 N a (nI (2 ^ (19 - k))) h (f + 1) _ (nI (ans s).length) = _
    rw [x_X1_yesAt_10_s, al.2.2.1, if_pos (nI_le (Nat.le_refl _) (by omega))]
    rfl
theorem bt_andAll : ∀ (l : List Int32) {i : Nat}, i < 32 → bt (andAll l) i = l.all (fun x => bt x i) := by
  have key : ∀ (l : List Int32) (a : Int32) {i : Nat}, i < 32 → bt (l.foldl (fun a x => a &&& x) a) i = (bt a i && l.all (fun x => bt x i)) := by
    intro l
    induction l with
    | nil => intro a i _; simp
    | cons x l ih => intro a i hi; rw [List.foldl_cons, ih _ hi, b_and, List.all_cons, Bool.and_assoc]
  intro l i hi
  unfold andAll
  rw [key l (-1) hi, b_m1 i hi, Bool.true_and]
theorem bt_orAll : ∀ (l : List Int32) (i : Nat), bt (orAll l) i = l.any (fun x => bt x i) := by
  have key : ∀ (l : List Int32) (a : Int32) (i : Nat), bt (l.foldl (fun a x => a ||| x) a) i = (bt a i || l.any (fun x => bt x i)) := by
    intro l
    induction l with
    | nil => intro a i; simp
    | cons x l ih => intro a i; rw [List.foldl_cons, ih _ i, b_or, List.any_cons, Bool.or_assoc]
  intro l i
  unfold orAll
  rw [key l 0 i, b_0, Bool.false_or]
theorem mem_getD {l : List Nat} {q : Nat} : q ∈ l ↔ ∃ j, j < l.length ∧ l.getD j 0 = q := ⟨fun h => ⟨l.idxOf q, List.idxOf_lt_length_of_mem h, getD_idx h⟩, fun ⟨j, hj, e⟩ => e ▸ getD_mem hj⟩
theorem yesN_all {s : Sh} {k : Nat} : yesN s k = (ans s).length ↔ ∀ q ∈ ans s, cb s q k = true := by
  unfold yesN
  rw [fb_ct_all]
  exact ⟨fun h q hq => by obtain ⟨j, hj, e⟩ := mem_getD.mp hq; rw [← e]; exact h j hj, fun h j hj => h _ (getD_mem hj)⟩
theorem yesN_zero {s : Sh} {k : Nat} : yesN s k = 0 ↔ ∀ q ∈ ans s, cb s q k = false := by
  unfold yesN
  rw [fb_ct_zero]
  exact ⟨fun h q hq => by obtain ⟨j, hj, e⟩ := mem_getD.mp hq; rw [← e]; exact h j hj, fun h j hj => h _ (getD_mem hj)⟩
theorem bt_shl_at {s : Sh} (w : WS s) {q k : Nat} (hq : q < 2 ^ sN s) (hk : k < sN s) : bt (shl s q) (19 - k) = cb s q k := by
  have n20 := w.n20
  rw [shl_bit w (by omega) hq]
  have h1 : 19 - k < 20 := by omega
  have h2 : 19 - (19 - k) = k := by omega
  simp [h1, h2, hk]
theorem bt_always {s : Sh} (w : WS s) {k : Nat} (hk : k < sN s) : bt (andAll ((ans s).map (shl s))) (19 - k) = decide (yesN s k = (ans s).length) := by
  have n20 := w.n20
  rw [bt_andAll _ (by omega), Bool.eq_iff_iff, decide_eq_true_eq, yesN_all, List.all_eq_true]
  simp only [List.mem_map, forall_exists_index, and_imp, forall_apply_eq_imp_iff₂]
  refine forall_congr' fun q => forall_congr' fun hq => ?_
  rw [bt_shl_at w (ans_lt hq) hk]
theorem bt_ever {s : Sh} (w : WS s) {k : Nat} (hk : k < sN s) : bt (orAll ((ans s).map (shl s))) (19 - k) = decide (yesN s k ≠ 0) := by
  rw [bt_orAll, Bool.eq_iff_iff, decide_eq_true_eq, Ne, yesN_zero, List.any_eq_true]
  simp only [List.mem_map]
  constructor
  · rintro ⟨x, ⟨q, hq, rfl⟩, hx⟩ hA
    rw [bt_shl_at w (ans_lt hq) hk, hA q hq] at hx
    cases hx
  · intro hA
    refine Classical.byContradiction fun ne => hA fun q hq => ?_
    by_cases c : cb s q k = true
    · exact absurd ⟨_, ⟨q, hq, rfl⟩, by rw [bt_shl_at w (ans_lt hq) hk]; exact c⟩ ne
    · simpa using c
theorem openBit {s : Sh} (w : WS s) {k : Nat} (hk : k < sN s) : bt (orAll ((ans s).map (shl s)) &&& (andAll ((ans s).map (shl s)) ^^^ (-1))) (19 - k) = decide (yesN s k ≠ 0 ∧ yesN s k ≠ (ans s).length) := by
  rw [b_and, bt_neg _ (by omega), bt_ever w hk, bt_always w hk, Bool.eq_iff_iff]
  simp
theorem yesIn_eq (x : Int32) {k : Nat} (hk : k < 20) : x_X8_yesIn x (nI k) = some (if bt x (19 - k) then 1 else 0) := by
  unfold x_X8_yesIn
  rw [bit_of k hk]
  simp only [Option.bind_some]
  congr 1
  by_cases c : bt x (19 - k) = true
  · rw [if_pos c, if_neg (fun q => by rw [and_bit0 _ (by omega), c] at q; cases q)]
  · rw [if_neg c, if_pos ((and_bit0 _ (by omega)).mpr (by simpa using c))]
theorem sureAt_eq {a k : Nat} {s : Sh} {h : mH} (w : WS s) (al : AL h a s) (hk : k < sN s) : x_X1_sureAt a (nI k) h = some (sureS s k) := by
  have n20 := w.n20
  have l310 := ans_310 w
  unfold x_X1_sureAt x_X1_openCells sureS
  rw [al.2.2.1, al.2.2.2.2.1, al.2.2.2.2.2.1]
  simp only [Option.bind_some]
  by_cases z : (ans s).length = 0
  · rw [if_neg (by rw [z]; exact fun q => q rfl), if_pos z]
  · rw [if_pos (nI_ne0 (by omega) (by omega)), if_neg z, yesIn_eq _ (by omega), openBit w hk]
    simp only [Option.bind_some]
    by_cases c : yesN s k ≠ 0 ∧ yesN s k ≠ (ans s).length
    · rw [if_neg (by simp [c]), if_neg c.1, if_neg c.2]
    · rw [if_pos (by simp only [c, decide_false]; decide), yesIn_eq _ (by omega), bt_always w hk]
      simp only [Option.bind_some]
      congr 1
      by_cases y : yesN s k = 0
      · have : ¬ yesN s k = (ans s).length := by omega
        simp [y]
        omega
      · have : yesN s k = (ans s).length := Classical.byContradiction fun q => c ⟨y, q⟩
        rw [if_neg y, if_pos this]
        simp [this]
theorem myesIn_eq {N p k : Nat} {s : Sh} {h : mH} (hN : 400 < N) (w : WS s) (ms : MS h p 0 s) (l : LsA h (ans s)) (hk : k < sN s) : x_X9_yesIn N p (nI k) h = some (nI (yesN s k)) := by
  have n20 := w.n20
  have l310 := ans_310 w
  unfold x_X9_yesIn
  refine lpV (fun f (x : Int32) i => x_X9_yesIn_5 N p (nI k) h f x i) (fun j => nI (fb_ct (fun j => cb s ((ans s).getD j 0) k) j)) (ans s).length _ (fun f j hj => ?_) (fun f => ?_) (by omega)
  · show x_X9_yesIn_5 N p (nI k) h (f + 1) _ (nI j) = x_X9_yesIn_5 N p (nI k) h f _ (nI (j + 1))
    rw [x_X9_yesIn_5_s, l.1, if_neg (nI_ge hj (by omega)), mck_ok (vp_in_nI (by omega) (by decide)), nI_clamp (by omega), l.2 j hj, isYes_eq ms w _ _ hk]
    simp only [Option.bind_some, mlet_eq]
    rw [nI_1, fb_ct_succ]
    congr 1
    by_cases c : cb s ((ans s).getD j 0) k = true
    · rw [if_neg (by rw [if_pos c]; decide), if_pos c, nI_1]
    · rw [if_pos (by rw [if_neg c]), if_neg c]
      simp
  · show x_X9_yesIn_5 N p (nI k) h (f + 1) _ (nI (ans s).length) = _
    rw [x_X9_yesIn_5_s, l.1, if_pos (nI_le (Nat.le_refl _) (by omega))]
    rfl
theorem yesN_le (s : Sh) (k : Nat) : yesN s k ≤ (ans s).length := fb_ct_le _ _
theorem msure_eq {N p k : Nat} {s : Sh} {h : mH} (hN : 400 < N) (w : WS s) (ms : MS h p 0 s) (l : LsA h (ans s)) (hk : k < sN s) : x_X9_sure N p (nI k) h = some (sureS s k) := by
  have l310 := ans_310 w
  have yl := yesN_le s k
  unfold x_X9_sure sureS
  rw [myesIn_eq hN w ms l hk, l.1]
  simp only [Option.bind_some]
  congr 1
  by_cases z : (ans s).length = 0
  · rw [if_neg (by rw [z]; exact fun q => q rfl), if_pos z]
  · rw [if_pos (nI_ne0 (by omega) (by omega)), if_neg z]
    by_cases y : yesN s k = 0
    · rw [if_neg (by rw [y]; exact fun q => q rfl), if_pos y]
    · rw [if_pos (nI_ne0 (by omega) (by omega)), if_neg y]
      by_cases x : yesN s k = (ans s).length
      · rw [if_neg (by rw [x]; exact fun q => q rfl), if_pos x]
      · rw [if_pos (by rw [nI_eq (by omega) (by omega)]; exact x), if_neg x]
theorem S_cell {N t : Nat} {h : mH} {z : St} (hN : 1000 < N) (hw : WF z) (hc : IC t h z) (hm : IM h z) (a b : Int32) : GW t (xcR (x_X8_cell N a b h) h (fun h1 => x_X9_cell N a b h1)) := by
  have w := hw.2.1.1
  have cs := hc.2.1
  have al := hc.2.2.1
  have ms := (hm.thr 0).2.1
  have n20 := w.n20
  have F0 : frM h (msi h 82 0 0) := frM_i (by decide)
  rcases in_cases a (n := sN z.2.1) (by omega) with ⟨k, hk, rfl⟩ | ⟨-, ca⟩
  · rcases in_cases b (n := 3) (by decide) with ⟨v, hv, rfl⟩ | ⟨cv, cb'⟩
    · have ein : x_X9_in (nI v).toInt64 0 (2 : Int64) = some 1 := by
        rw [show (2 : Int64) = (nI 2).toInt64 by decide, inN _ (by decide), if_pos ⟨v, hv, rfl⟩]
      have head : x_X8_cell N (nI k) (nI v) h = if nI v = (0 : Int32) then (x_X2_planeAt 1 (nI k) h).bind fun q4 => some q4 else if nI v = (1 : Int32) then (x_X1_sureAt 5 (nI k) h).bind fun q6 => some q6 else if nI v = (2 : Int32) then (x_X1_yesAt N 5 (nI k) h).bind fun q8 => some q8 else some (-2 : Int32) := by
        unfold x_X8_cell
        rw [hasCell_eq w cs, if_pos ⟨k, hk, rfl⟩]
        simp only [Option.bind_some]
        rw [if_pos (by decide)]
      obtain ⟨h', e', l', i', f'⟩ := M_list (by omega : 400 < N) hw (hm.thr 0)
      rcases (by omega : v = 0 ∨ v = 1 ∨ v = 2) with q | q | q
      · subst q
        rcases hw.2.1.2 with ⟨p1, p2⟩ | ⟨q, p1, p2⟩
        · refine ok_R (r := -9) hc hm hw ?_ ⟨_, ?_, hm.thr 0, F0⟩
          · rw [head, if_pos (by decide)]
            unfold x_X2_planeAt
            rw [show mgi h (1 + 1) 6 = -1 by rw [← plC_none p1]; exact cs.2.2.2.2.2.2, if_neg (by decide)]
            rfl
          · unfold x_X9_cell
            simp only [mlet_eq]
            rw [noCell_eq ms w, if_pos ⟨k, hk, rfl⟩]
            simp only [Option.bind_some]
            rw [if_pos (by decide), ein]
            simp only [Option.bind_some]
            rw [if_pos (by decide), if_neg (by decide), ms.pl, plM_none p1, if_neg (by decide)]
        · have hq := ans_lt p2
          have q20 := pw20 w hq
          refine ok_R (r := if cb z.2.1 q k then 1 else 0) hc hm hw ?_ ⟨_, ?_, hm.thr 0, F0⟩
          · rw [head, if_pos (by decide)]
            unfold x_X2_planeAt
            rw [show mgi h (1 + 1) 6 = shl z.2.1 q by rw [← plC_some p1]; exact cs.2.2.2.2.2.2, if_pos (shl_pos w hq), yesIn_eq _ (by omega), bt_shl_at w hq hk]
            rfl
          · unfold x_X9_cell
            simp only [mlet_eq]
            rw [noCell_eq ms w, if_pos ⟨k, hk, rfl⟩]
            simp only [Option.bind_some]
            rw [if_pos (by decide), ein]
            simp only [Option.bind_some]
            rw [if_pos (by decide), if_neg (by decide), ms.pl, plM_some p1, if_pos (nI_n9 (by omega)), isYes_eq ms w _ _ hk]
            simp only [Option.bind_some]
            cases cb z.2.1 q k <;> rfl
      · subst q
        refine ok_R (r := sureS z.2.1 k) hc hm hw ?_ ⟨h', ?_, i', F0.trans f'.frM⟩
        · rw [head, if_neg (by decide), if_pos (by decide), sureAt_eq w al hk]
          rfl
        · unfold x_X9_cell
          simp only [mlet_eq]
          rw [noCell_eq ms w, if_pos ⟨k, hk, rfl⟩]
          simp only [Option.bind_some]
          rw [if_pos (by decide), ein]
          simp only [Option.bind_some]
          rw [if_pos (by decide), if_pos (by decide), e']
          simp only [Option.bind_some]
          rw [if_neg (by decide), msure_eq (by omega) w i'.2.1 l' hk]
          rfl
      · subst q
        refine ok_R (r := nI (yesN z.2.1 k)) hc hm hw ?_ ⟨h', ?_, i', F0.trans f'.frM⟩
        · rw [head, if_neg (by decide), if_neg (by decide), if_pos (by decide), yesAt_eq (by omega) w al hk]
          rfl
        · unfold x_X9_cell
          simp only [mlet_eq]
          rw [noCell_eq ms w, if_pos ⟨k, hk, rfl⟩]
          simp only [Option.bind_some]
          rw [if_pos (by decide), ein]
          simp only [Option.bind_some]
          rw [if_pos (by decide), if_pos (by decide), e']
          simp only [Option.bind_some]
          rw [if_pos (by decide), myesIn_eq (by omega) w i'.2.1 l' hk]
          rfl
    · refine ok_R (r := -2) hc hm hw ?_ ⟨_, ?_, hm.thr 0, F0⟩
      · unfold x_X8_cell
        rw [hasCell_eq w cs, if_pos ⟨k, hk, rfl⟩]
        simp only [Option.bind_some]
        rw [if_pos (by decide), if_neg (show ¬ b = (0 : Int32) from fun e => cb' ⟨0, by decide, e⟩), if_neg (show ¬ b = (1 : Int32) from fun e => cb' ⟨1, by decide, e⟩), if_neg (show ¬ b = (2 : Int32) from fun e => cb' ⟨2, by decide, e⟩)]
      · unfold x_X9_cell
        simp only [mlet_eq]
        rw [noCell_eq ms w, if_pos ⟨k, hk, rfl⟩]
        simp only [Option.bind_some]
        rw [if_pos (by decide), show (2 : Int64) = (nI 2).toInt64 by decide, inN _ (by decide), if_neg cb']
        simp only [Option.bind_some]
        rw [if_neg (by decide)]
  · refine ok_R (r := -1) hc hm hw ?_ ⟨_, ?_, hm.thr 0, F0⟩
    · unfold x_X8_cell
      rw [hasCell_eq w cs, if_neg ca]
      simp only [Option.bind_some]
      rw [if_neg (by decide)]
    · unfold x_X9_cell
      simp only [mlet_eq]
      rw [noCell_eq ms w, if_neg ca]
      simp only [Option.bind_some]
      rw [if_neg (by decide)]
/-! fractions -/
theorem xrem_nI {a b : Nat} (ha : a < 2 ^ 31) (h0 : 0 < b) (hb : b < 2 ^ 31) : xrem (nI a) (nI b) = nI (a % b) := by
  unfold xrem
  exact pk_rem ha h0 hb
theorem mzd_ok {β : Type} {b : Nat} (h0 : 0 < b) (hb : b < 2 ^ 31) (k : Option β) : mzd (nI b) k = k := if_neg (nI_ne0 h0 hb)
theorem half {a b : Nat} (hb : 0 < b) (h : 0 < a % b) : 2 * (b % (a % b)) < b := by
  have h1 := Nat.mod_lt a hb
  have h2 := Nat.mod_lt b h
  have h3 : b % (a % b) + a % b ≤ b := by
    have e := Nat.mod_add_div b (a % b)
    have q : 1 ≤ b / (a % b) := (Nat.one_le_div_iff h).mpr (Nat.le_of_lt h1)
    have := Nat.mul_le_mul_left (a % b) q
    omega
  omega
theorem gcd_loop (N : Nat) : ∀ (j a b f t : Nat), a < 2 ^ 31 → b < 2 ^ 31 → b < 2 ^ j → 2 * j + 1 ≤ f → t + 2 * j ≤ 63 → x_X8_greatestDivisor_7 N f (nI a) (nI b) (nI t) = some (nI (Nat.gcd a b)) := by
  intro j
  induction j with
  | zero =>
    intro a b f t ha hb h1 h2 h3
    obtain ⟨f, rfl⟩ : ∃ e, f = e + 1 := ⟨f - 1, by omega⟩
    have : b = 0 := by simp at h1; exact h1
    subst this
    rw [x_X8_greatestDivisor_7_s, if_neg (show ¬ (64 : Int32) ≤ nI t from nI_ge (b := 64) (by omega) (by decide)), if_pos (by decide), Nat.gcd_zero_right]
  | succ j ih =>
    intro a b f t ha hb h1 h2 h3
    obtain ⟨f, rfl⟩ : ∃ e, f = e + 1 := ⟨f - 1, by omega⟩
    rw [x_X8_greatestDivisor_7_s, if_neg (show ¬ (64 : Int32) ≤ nI t from nI_ge (b := 64) (by omega) (by decide))]
    by_cases z : b = 0
    · subst z
      rw [if_pos (by decide), Nat.gcd_zero_right]
    · have hm := Nat.mod_lt a (by omega : 0 < b)
      rw [if_neg (nI_ne0 (by omega) hb), mzd_ok (by omega) hb, xrem_nI ha (by omega) hb, mlet_eq, nI_1]
      obtain ⟨f, rfl⟩ : ∃ e, f = e + 1 := ⟨f - 1, by omega⟩
      rw [x_X8_greatestDivisor_7_s, if_neg (show ¬ (64 : Int32) ≤ nI (t + 1) from nI_ge (b := 64) (by omega) (by decide))]
      have g1 : Nat.gcd a b = Nat.gcd b (a % b) := by rw [Nat.gcd_comm a b, Nat.gcd_rec b a, Nat.gcd_comm]
      by_cases y : a % b = 0
      · rw [y, if_pos (by decide), g1, y, Nat.gcd_zero_right]
      · have hf := half (a := a) (b := b) (by omega) (by omega)
        rw [if_neg (nI_ne0 (by omega) (by omega)), mzd_ok (by omega) (by omega), xrem_nI hb (by omega) (by omega), mlet_eq, nI_1]
        have g2 : Nat.gcd b (a % b) = Nat.gcd (a % b) (b % (a % b)) := by rw [Nat.gcd_comm b (a % b), Nat.gcd_rec (a % b) b, Nat.gcd_comm]
        rw [g1, g2]
        rw [Nat.pow_succ] at h1
        exact ih _ _ f _ (by omega) (by omega) (by omega) (by omega) (by omega)
theorem mgcd_loop (N : Nat) : ∀ (j a b f : Nat), a < 2 ^ 31 → b < 2 ^ 31 → b < 2 ^ j → 2 * j + 1 ≤ f → x_X9_divisor_4 N f (nI a) (nI b) = some (nI (Nat.gcd a b)) := by
  intro j
  induction j with
  | zero =>
    intro a b f ha hb h1 h2
    obtain ⟨f, rfl⟩ : ∃ e, f = e + 1 := ⟨f - 1, by omega⟩
    have : b = 0 := by simp at h1; exact h1
    subst this
    rw [x_X9_divisor_4_s, if_pos (by decide), Nat.gcd_zero_right]
  | succ j ih =>
    intro a b f ha hb h1 h2
    obtain ⟨f, rfl⟩ : ∃ e, f = e + 1 := ⟨f - 1, by omega⟩
    rw [x_X9_divisor_4_s]
    by_cases z : b = 0
    · subst z
      rw [if_pos (by decide), Nat.gcd_zero_right]
    · have hm := Nat.mod_lt a (by omega : 0 < b)
      rw [if_neg (nI_ne0 (by omega) hb), mzd_ok (by omega) hb, xrem_nI ha (by omega) hb, mlet_eq]
      obtain ⟨f, rfl⟩ : ∃ e, f = e + 1 := ⟨f - 1, by omega⟩
      rw [x_X9_divisor_4_s]
      have g1 : Nat.gcd a b = Nat.gcd b (a % b) := by rw [Nat.gcd_comm a b, Nat.gcd_rec b a, Nat.gcd_comm]
      by_cases y : a % b = 0
      · rw [y, if_pos (by decide), g1, y, Nat.gcd_zero_right]
      · have hf := half (a := a) (b := b) (by omega) (by omega)
        rw [if_neg (nI_ne0 (by omega) (by omega)), mzd_ok (by omega) (by omega), xrem_nI hb (by omega) (by omega), mlet_eq]
        have g2 : Nat.gcd b (a % b) = Nat.gcd (a % b) (b % (a % b)) := by rw [Nat.gcd_comm b (a % b), Nat.gcd_rec (a % b) b, Nat.gcd_comm]
        rw [g1, g2]
        rw [Nat.pow_succ] at h1
        exact ih _ _ f (by omega) (by omega) (by omega) (by omega)
def frac (a b : Nat) (u : Int32) : Int32 := if u = 0 then nI (b / Nat.gcd a b) else nI (a / Nat.gcd a b)
theorem least_eq {N a b : Nat} {u : Int32} (hN : 400 < N) (ha : a < 2 ^ 31) (h0 : 0 < b) (hb : b < 2 ^ 31) : x_X8_inLeastTerms N (nI a) (nI b) u = some (frac a b u) := by
  have gp : 0 < Nat.gcd a b := Nat.gcd_pos_of_pos_right _ h0
  have gl : Nat.gcd a b ≤ b := Nat.gcd_le_right _ h0
  unfold x_X8_inLeastTerms x_X8_greatestDivisor
  rw [show (0 : Int32) = nI 0 from rfl, gcd_loop N 31 a b N 0 ha hb hb (by omega) (by omega)]
  unfold x_J9_max_7cf53
  simp only [Option.bind_some]
  have mx : (if (1 : Int32) < nI (Nat.gcd a b) then nI (Nat.gcd a b) else 1) = nI (Nat.gcd a b) := by
    by_cases c : 1 < Nat.gcd a b
    · rw [if_pos (show (1 : Int32) < nI (Nat.gcd a b) from nI_lt (a := 1) c (by omega))]
    · rw [if_neg (show ¬ (1 : Int32) < nI (Nat.gcd a b) from nI_nlt (b := Nat.gcd a b) (a := 1) (by omega) (by decide) |> fun q r => by
        have e1 : Nat.gcd a b = 1 := by omega
        rw [e1] at r
        exact absurd r (by decide))]
      have e1 : Nat.gcd a b = 1 := by omega
      rw [e1]
      rfl
  rw [mx, mzd_ok gp (by omega), mzd_ok gp (by omega), pk_div ha gp (by omega), pk_div hb gp (by omega)]
  unfold frac
  by_cases q : u = 0
  · rw [if_pos q, if_pos (show u = nI 0 from q)]
  · rw [if_neg q, if_neg (show ¬ u = nI 0 from q)]
theorem fraction_eq {N a b : Nat} {u : Int32} (hN : 400 < N) (ha : a < 2 ^ 31) (h0 : 0 < b) (hb : b < 2 ^ 31) : x_X9_fraction N (nI a) (nI b) u = some (frac a b u) := by
  have gp : 0 < Nat.gcd a b := Nat.gcd_pos_of_pos_right _ h0
  have gl : Nat.gcd a b ≤ b := Nat.gcd_le_right _ h0
  unfold x_X9_fraction x_X9_divisor
  rw [mgcd_loop N 31 a b N ha hb hb (by omega)]
  simp only [Option.bind_some]
  rw [mzd_ok gp (by omega), mzd_ok gp (by omega), pk_div ha gp (by omega), pk_div hb gp (by omega)]
  unfold frac
  by_cases q : u = 0
  · rw [if_pos q, if_pos q]
  · rw [if_neg q, if_neg q]
theorem S_odds {N t : Nat} {h : mH} {z : St} (hN : 1000 < N) (hw : WF z) (hc : IC t h z) (hm : IM h z) (a u : Int32) : GW t (xcR (x_X8_odds N a u h) h (fun h1 => x_X9_odds N a u h1)) := by
  have w := hw.2.1.1
  have cs := hc.2.1
  have al := hc.2.2.1
  have ms := (hm.thr 0).2.1
  have n20 := w.n20
  have l310 := ans_310 w
  have F0 : frM h (msi h 82 0 0) := frM_i (by decide)
  rcases in_cases a (n := sN z.2.1) (by omega) with ⟨k, hk, rfl⟩ | ⟨-, ca⟩
  · obtain ⟨h', e', l', i', f'⟩ := M_list (by omega : 400 < N) hw (hm.thr 0)
    have yl := yesN_le z.2.1 k
    by_cases c : (ans z.2.1).length = 0
    · refine ok_R (r := -3) hc hm hw ?_ ⟨h', ?_, i', F0.trans f'.frM⟩
      · unfold x_X8_odds
        rw [hasCell_eq w cs, if_pos ⟨k, hk, rfl⟩]
        simp only [Option.bind_some]
        rw [if_pos (by decide), al.2.2.1, c, if_neg (fun q => q rfl)]
      · unfold x_X9_odds
        simp only [mlet_eq]
        rw [noCell_eq ms w, if_pos ⟨k, hk, rfl⟩]
        simp only [Option.bind_some]
        rw [if_pos (by decide), e']
        simp only [Option.bind_some]
        rw [l'.1, c, if_neg (fun q => q rfl)]
    · refine ok_R (r := frac (yesN z.2.1 k) (ans z.2.1).length u) hc hm hw ?_ ⟨h', ?_, i', F0.trans f'.frM⟩
      · unfold x_X8_odds
        rw [hasCell_eq w cs, if_pos ⟨k, hk, rfl⟩]
        simp only [Option.bind_some]
        rw [if_pos (by decide), al.2.2.1, if_pos (nI_ne0 (by omega) (by omega)), yesAt_eq (by omega) w al hk]
        simp only [Option.bind_some]
        rw [least_eq (by omega) (by omega) (by omega) (by omega)]
        rfl
      · unfold x_X9_odds
        simp only [mlet_eq]
        rw [noCell_eq ms w, if_pos ⟨k, hk, rfl⟩]
        simp only [Option.bind_some]
        rw [if_pos (by decide), e']
        simp only [Option.bind_some]
        rw [l'.1, if_pos (nI_ne0 (by omega) (by omega)), myesIn_eq (by omega) w i'.2.1 l' hk]
        simp only [Option.bind_some]
        rw [fraction_eq (by omega) (by omega) (by omega) (by omega)]
        rfl
  · refine ok_R (r := -1) hc hm hw ?_ ⟨_, ?_, hm.thr 0, F0⟩
    · unfold x_X8_odds
      rw [hasCell_eq w cs, if_neg ca]
      simp only [Option.bind_some]
      rw [if_neg (by decide)]
    · unfold x_X9_odds
      simp only [mlet_eq]
      rw [noCell_eq ms w, if_neg ca]
      simp only [Option.bind_some]
      rw [if_neg (by decide)]
