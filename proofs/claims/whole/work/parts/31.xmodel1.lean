noncomputable def x_X9_in (p0 : Int64) (p1 : Int64) (p2 : Int64) : Option (Int32) :=
  some (if (lg_cmp p0 p1) < 0 then (0 : Int32) else (if 0 < (lg_cmp p0 p2) then (0 : Int32) else (1 : Int32)))
set_option maxRecDepth 20000 in
set_option maxHeartbeats 4000000 in
theorem t_X9_in {g : mG} {l : Launch} (hg : mnn g = 101) (p0 : Int64) (p1 : Int64) (p2 : Int64) (h : mH) : mf g l 0 mX9_in (fun r : Int32 => (some (Value.int r), h)) [.long p0, .long p1, .long p2] h (x_X9_in p0 p1 p2) := by
  refine mf_of (by decide) (Nat.le_of_ble_eq_true rfl) ?_
  show mw g l 0 mX9_in (fun r : Int32 => (some (Value.int r), h)) 0 [(0, .long p0), (2, .long p1), (4, .long p2)] [] h _
  unfold x_X9_in
  refine mw_lload_n (n := 1) (q := 0) dX9_in_0 rfl rfl rfl ?_
  refine mw_lload_n (n := 2) (q := 1) dX9_in_1 rfl rfl rfl ?_
  refine mw_lcmp (n := 3) dX9_in_2 rfl ?_
  refine mw_cutJ (pc' := 18) (lv' := [(0, .long p0), (2, .long p1), (4, .long p2)]) (st' := [.int (if (lg_cmp p0 p1) < 0 then (0 : Int32) else (if 0 < (lg_cmp p0 p2) then (0 : Int32) else (1 : Int32)))]) (fun J => ?_) ?_
  · refine mw_if_lt_m (n := 6) (t := 17) dX9_in_3 rfl (by decide) (fun c1 => ?_) (fun c1 => ?_)
    · refine mw_iconst (n := 18) (v := 0) dX9_in_17 rfl (by decide) ?_
      exact mw_topeq (if_pos c1).symm J
    · refine mw_lload_n (n := 7) (q := 0) dX9_in_6 rfl rfl rfl ?_
      refine mw_lload (n := 9) (q := 2) dX9_in_7 rfl rfl ?_
      refine mw_lcmp (n := 10) dX9_in_9 rfl ?_
      refine mw_if_gt_m (n := 13) (t := 17) dX9_in_10 rfl (by decide) (fun c2 => ?_) (fun c2 => ?_)
      · refine mw_iconst (n := 18) (v := 0) dX9_in_17 rfl (by decide) ?_
        exact mw_topeq ((if_neg c1).trans (if_pos c2)).symm J
      · refine mw_iconst (n := 14) (v := 1) dX9_in_13 rfl (by decide) ?_
        refine mw_goto (n := 18) dX9_in_14 (by decide) ?_
        exact mw_topeq ((if_neg c1).trans (if_neg c2)).symm J
  exact mw_zret dX9_in_18 rfl (mz01 (Or.inl rfl) (mz01 (Or.inl rfl) (Or.inr rfl))) rfl
noncomputable def x_X9_has (p0 : Int32) (p1 : Int32) : Option (Int32) :=
  some (if ¬ ((p0 >>> (p1 &&& 31)) &&& (1 : Int32)) = (1 : Int32) then (0 : Int32) else (1 : Int32))
set_option maxRecDepth 20000 in
set_option maxHeartbeats 4000000 in
theorem t_X9_has {g : mG} {l : Launch} (hg : mnn g = 101) (p0 : Int32) (p1 : Int32) (h : mH) : mf g l 0 mX9_has (fun r : Int32 => (some (Value.int r), h)) [.int p0, .int p1] h (x_X9_has p0 p1) := by
  refine mf_of (by decide) (Nat.le_of_ble_eq_true rfl) ?_
  show mw g l 0 mX9_has (fun r : Int32 => (some (Value.int r), h)) 0 [(0, .int p0), (1, .int p1)] [] h _
  unfold x_X9_has
  refine mw_iload_n (n := 1) (q := 0) dX9_has_0 rfl rfl rfl ?_
  refine mw_iload_n (n := 2) (q := 1) dX9_has_1 rfl rfl rfl ?_
  refine mw_ishr (n := 3) dX9_has_2 rfl ?_
  refine mw_iconst (n := 4) (v := 1) dX9_has_3 rfl (by decide) ?_
  refine mw_iand (n := 5) dX9_has_4 rfl ?_
  refine mw_iconst (n := 6) (v := 1) dX9_has_5 rfl (by decide) ?_
  refine mw_cutJ (pc' := 14) (lv' := [(0, .int p0), (1, .int p1)]) (st' := [.int (if ¬ ((p0 >>> (p1 &&& 31)) &&& (1 : Int32)) = (1 : Int32) then (0 : Int32) else (1 : Int32))]) (fun J => ?_) ?_
  · refine mw_icmp_ne_m (n := 9) (t := 13) dX9_has_6 rfl (by decide) (fun c1 => ?_) (fun c1 => ?_)
    · refine mw_iconst (n := 14) (v := 0) dX9_has_13 rfl (by decide) ?_
      exact mw_topeq (if_pos c1).symm J
    · refine mw_iconst (n := 10) (v := 1) dX9_has_9 rfl (by decide) ?_
      refine mw_goto (n := 14) dX9_has_10 (by decide) ?_
      exact mw_topeq (if_neg c1).symm J
  exact mw_zret dX9_has_14 rfl (mz01 (Or.inl rfl) (Or.inr rfl)) rfl
noncomputable def x_X9_ones_4 (N : Nat) (v0 : Int32) (f : Nat) : Int32 → Int32 → Option (Int32) :=
  Nat.rec (motive := fun _ => Int32 → Int32 → Option (Int32)) (fun _ _ => none) (fun _ self4 => fun v1 v2 => 
    if (20 : Int32) ≤ v2 then
      some v1
    else
      mlet (v1 + ((v0 >>> (v2 &&& 31)) &&& (1 : Int32))) fun u2 =>
      self4 u2 (v2 + (1 : Int32))) f
theorem x_X9_ones_4_0 (N : Nat) (v0 : Int32) (v1 : Int32) (v2 : Int32) : x_X9_ones_4 N v0 0 v1 v2 = none := rfl
theorem x_X9_ones_4_s (N : Nat) (v0 : Int32) (f : Nat) (v1 : Int32) (v2 : Int32) : x_X9_ones_4 N v0 (f + 1) v1 v2 = (
    if (20 : Int32) ≤ v2 then
      some v1
    else
      mlet (v1 + ((v0 >>> (v2 &&& 31)) &&& (1 : Int32))) fun u2 =>
      (x_X9_ones_4 N v0 f) u2 (v2 + (1 : Int32))) := rfl
set_option maxRecDepth 20000 in
set_option maxHeartbeats 4000000 in
theorem b_X9_ones_4 {g : mG} {l : Launch} (hg : mnn g = 101) (N : Nat) (v0 : Int32) (h : mH) (f : Nat) : ∀ (v1 : Int32) (v2 : Int32), mw g l 0 mX9_ones (fun r : Int32 => (some (Value.int r), h)) 4 [(0, .int v0), (1, .int v1), (2, .int v2)] [] h (x_X9_ones_4 N v0 f v1 v2) := by
  induction f with
  | zero => intros; exact mw_none
  | succ f hself4 =>
    intro v1 v2
    refine mw_eq (x_X9_ones_4_s N v0 f v1 v2) ?_
    generalize x_X9_ones_4 N v0 f = self4 at hself4 ⊢
    refine mw_iload_n (n := 5) (q := 2) dX9_ones_4 rfl rfl rfl ?_
    refine mw_bipush (n := 7) (v := 20) dX9_ones_5 rfl (by decide) ?_
    refine mw_icmp_ge (n := 10) (t := 24) dX9_ones_7 rfl (by decide) Iff.rfl (fun c1 => ?_) (fun c1 => ?_)
    · refine mw_iload_n (n := 25) (q := 1) dX9_ones_24 rfl rfl rfl ?_
      exact mw_iret dX9_ones_25 rfl rfl
    · refine mw_iload_n (n := 11) (q := 1) dX9_ones_10 rfl rfl rfl ?_
      refine mw_iload_n (n := 12) (q := 0) dX9_ones_11 rfl rfl rfl ?_
      refine mw_iload_n (n := 13) (q := 2) dX9_ones_12 rfl rfl rfl ?_
      refine mw_ishr (n := 14) dX9_ones_13 rfl ?_
      refine mw_iconst (n := 15) (v := 1) dX9_ones_14 rfl (by decide) ?_
      refine mw_iand (n := 16) dX9_ones_15 rfl ?_
      refine mw_iadd (n := 17) dX9_ones_16 rfl ?_
      refine mw_letI (fun u2 => ?_)
      refine mw_istore_n (n := 18) dX9_ones_17 rfl rfl (by decide) rfl ?_
      refine mw_iinc (n := 21) (q := 2) (v := (v2 + (1 : Int32))) dX9_ones_18 rfl rfl rfl (by decide) rfl ?_
      refine mw_goto (n := 4) dX9_ones_21 (by decide) ?_
      refine mw_sub [2, 1, 0] rfl ?_
      exact hself4 u2 (v2 + (1 : Int32))
noncomputable def x_X9_ones (N : Nat) (p0 : Int32) : Option (Int32) :=
  x_X9_ones_4 N p0 N (0 : Int32) (0 : Int32)
set_option maxRecDepth 20000 in
set_option maxHeartbeats 4000000 in
theorem t_X9_ones {g : mG} {l : Launch} (hg : mnn g = 101) (N : Nat) (p0 : Int32) (h : mH) : mf g l 0 mX9_ones (fun r : Int32 => (some (Value.int r), h)) [.int p0] h (x_X9_ones N p0) := by
  refine mf_of (by decide) (Nat.le_of_ble_eq_true rfl) ?_
  show mw g l 0 mX9_ones (fun r : Int32 => (some (Value.int r), h)) 0 [(0, .int p0)] [] h _
  unfold x_X9_ones
  refine mw_iconst (n := 1) (v := 0) dX9_ones_0 rfl (by decide) ?_
  refine mw_istore_n (n := 2) dX9_ones_1 rfl rfl (by decide) rfl ?_
  refine mw_iconst (n := 3) (v := 0) dX9_ones_2 rfl (by decide) ?_
  refine mw_istore_n (n := 4) dX9_ones_3 rfl rfl (by decide) rfl ?_
  refine mw_sub [2, 1, 0] rfl ?_
  exact b_X9_ones_4 hg N p0 h N (0 : Int32) (0 : Int32)
noncomputable def x_X9_cells (p0 : Nat) (h : mH) : Option (Int32) :=
  some ((mgi h p0 0) * (mgi h p0 1))
set_option maxRecDepth 20000 in
set_option maxHeartbeats 4000000 in
theorem t_X9_cells {g : mG} {l : Launch} (hg : mnn g = 101) (p0 : Nat) (hp0 : mkn g p0 132) (h : mH) : mf g l 0 mX9_cells (fun r : Int32 => (some (Value.int r), h)) [.ref (mad g p0)] h (x_X9_cells p0 h) := by
  refine mf_of (by decide) (Nat.le_of_ble_eq_true rfl) ?_
  show mw g l 0 mX9_cells (fun r : Int32 => (some (Value.int r), h)) 0 [(0, .ref (mad g p0))] [] h _
  unfold x_X9_cells
  refine mw_aload_n (n := 1) (q := 0) dX9_cells_0 rfl rfl rfl ?_
  refine mw_iconst (n := 2) (v := 0) dX9_cells_1 rfl (by decide) ?_
  refine mw_iaLd (n := 3) (a := p0) (j := 0) (N := 32) hp0 (by decide) (by decide) dX9_cells_2 rfl ?_
  refine mw_aload_n (n := 4) (q := 0) dX9_cells_3 rfl rfl rfl ?_
  refine mw_iconst (n := 5) (v := 1) dX9_cells_4 rfl (by decide) ?_
  refine mw_iaLd (n := 6) (a := p0) (j := 1) (N := 32) hp0 (by decide) (by decide) dX9_cells_5 rfl ?_
  refine mw_imul (n := 7) dX9_cells_6 rfl ?_
  exact mw_iret dX9_cells_7 rfl rfl
noncomputable def x_X9_isYes (p0 : Nat) (p1 : Int32) (p2 : Int32) (h : mH) : Option (Int32) :=
  (x_X9_cells p0 h).bind fun q1 =>
  (x_X9_has p1 ((q1 - (1 : Int32)) - p2)).bind fun q2 =>
  mzc q2 (some q2)
set_option maxRecDepth 20000 in
set_option maxHeartbeats 4000000 in
theorem t_X9_isYes {g : mG} {l : Launch} (hg : mnn g = 101) (p0 : Nat) (p1 : Int32) (p2 : Int32) (hp0 : mkn g p0 132) (h : mH) : mf g l 1 mX9_isYes (fun r : Int32 => (some (Value.int r), h)) [.ref (mad g p0), .int p1, .int p2] h (x_X9_isYes p0 p1 p2 h) := by
  refine mf_of (by decide) (Nat.le_of_ble_eq_true rfl) ?_
  show mw g l 1 mX9_isYes (fun r : Int32 => (some (Value.int r), h)) 0 [(0, .ref (mad g p0)), (1, .int p1), (2, .int p2)] [] h _
  unfold x_X9_isYes
  refine mw_iload_n (n := 1) (q := 1) dX9_isYes_0 rfl rfl rfl ?_
  refine mw_aload_n (n := 2) (q := 0) dX9_isYes_1 rfl rfl rfl ?_
  refine mw_callS (n := 5) (As := [.ref (mad g p0)]) (t_X9_cells hg p0 hp0 h) (by decide) ok_X9_cells rfl lk_X9_69 sm_X9_cells dX9_isYes_2 rfl rfl (Nat.le_of_ble_eq_true rfl) (fun q1 _ => ?_)
  show mw g l _ _ _ 5 _ [.int q1, .int p1] h _
  refine mw_iconst (n := 6) (v := 1) dX9_isYes_5 rfl (by decide) ?_
  refine mw_isub (n := 7) dX9_isYes_6 rfl ?_
  refine mw_iload_n (n := 8) (q := 2) dX9_isYes_7 rfl rfl rfl ?_
  refine mw_isub (n := 9) dX9_isYes_8 rfl ?_
  refine mw_callS (n := 12) (As := [.int p1, .int ((q1 - (1 : Int32)) - p2)]) (t_X9_has hg p1 ((q1 - (1 : Int32)) - p2) h) (by decide) ok_X9_has rfl lk_X9_73 sm_X9_has dX9_isYes_9 rfl rfl (Nat.le_of_ble_eq_true rfl) (fun q2 _ => ?_)
  show mw g l _ _ _ 12 _ [.int q2] h _
  exact mw_zretC dX9_isYes_12 rfl rfl
noncomputable def x_X9_noCell (p0 : Int32) (h : mH) : Option (Int32) :=
  (x_X9_cells 85 h).bind fun q1 =>
  (x_X9_in ((p0).toInt64) (0 : Int64) (((q1 - (1 : Int32))).toInt64)).bind fun q2 =>
  some (if ¬ q2 = 0 then (0 : Int32) else (1 : Int32))
set_option maxRecDepth 20000 in
set_option maxHeartbeats 4000000 in
theorem t_X9_noCell {g : mG} {l : Launch} (hg : mnn g = 101) (p0 : Int32) (h : mH) : mf g l 1 mX9_noCell (fun r : Int32 => (some (Value.int r), h)) [.ref (mad g 82), .int p0] h (x_X9_noCell p0 h) := by
  refine mf_of (by decide) (Nat.le_of_ble_eq_true rfl) ?_
  show mw g l 1 mX9_noCell (fun r : Int32 => (some (Value.int r), h)) 0 [(0, .ref (mad g 82)), (1, .int p0)] [] h _
  unfold x_X9_noCell
  refine mw_iload_n (n := 1) (q := 1) dX9_noCell_0 rfl rfl rfl ?_
  refine mw_i2l (n := 2) dX9_noCell_1 rfl ?_
  refine mw_lconst (n := 3) (v := 0) dX9_noCell_2 rfl (by decide) ?_
  refine mw_aload_n (n := 4) (q := 0) dX9_noCell_3 rfl rfl rfl ?_
  refine mw_getr (n := 7) (a := 82) (k := 4) cl9 (mkm hg (by decide) (by rfl)) (by decide) rfl rfl fl_X9_16 dX9_noCell_4 rfl ?_
  refine mw_callS (n := 10) (As := [.ref (mad g 85)]) (t_X9_cells hg 85 (mkm hg (by decide) (by rfl)) h) (by decide) ok_X9_cells rfl lk_X9_69 sm_X9_cells dX9_noCell_7 rfl rfl (Nat.le_of_ble_eq_true rfl) (fun q1 _ => ?_)
  show mw g l _ _ _ 10 _ [.int q1, .long (0 : Int64), .long (p0).toInt64] h _
  refine mw_iconst (n := 11) (v := 1) dX9_noCell_10 rfl (by decide) ?_
  refine mw_isub (n := 12) dX9_noCell_11 rfl ?_
  refine mw_i2l (n := 13) dX9_noCell_12 rfl ?_
  refine mw_callS (n := 16) (As := [.long (p0).toInt64, .long (0 : Int64), .long ((q1 - (1 : Int32))).toInt64]) (t_X9_in hg ((p0).toInt64) (0 : Int64) (((q1 - (1 : Int32))).toInt64) h) (by decide) ok_X9_in rfl lk_X9_77 sm_X9_in dX9_noCell_13 rfl rfl (Nat.le_of_ble_eq_true rfl) (fun q2 _ => ?_)
  show mw g l _ _ _ 16 _ [.int q2] h _
  refine mw_cutJ (pc' := 24) (lv' := [(0, .ref (mad g 82)), (1, .int p0)]) (st' := [.int (if ¬ q2 = 0 then (0 : Int32) else (1 : Int32))]) (fun J => ?_) ?_
  · refine mw_if_ne_m (n := 19) (t := 23) dX9_noCell_16 rfl (by decide) (fun c3 => ?_) (fun c3 => ?_)
    · refine mw_iconst (n := 24) (v := 0) dX9_noCell_23 rfl (by decide) ?_
      exact mw_topeq (if_pos c3).symm J
    · refine mw_iconst (n := 20) (v := 1) dX9_noCell_19 rfl (by decide) ?_
      refine mw_goto (n := 24) dX9_noCell_20 (by decide) ?_
      exact mw_topeq (if_neg c3).symm J
  exact mw_zret dX9_noCell_24 rfl (mz01 (Or.inl rfl) (Or.inr rfl)) rfl
noncomputable def x_X9_lay_2 (N : Nat) (r0 : Nat) (r1 : Nat) (f : Nat) : Int32 → mH → Option (mH) :=
  Nat.rec (motive := fun _ => Int32 → mH → Option (mH)) (fun _ _ => none) (fun _ self2 => fun v2 h => 
    if (32 : Int32) ≤ v2 then
      some h
    else
      mck v2 32 <|
      mck v2 32 <|
      mlet (msi h r0 (v2).toNatClampNeg (mgi h r1 (v2).toNatClampNeg)) fun h2 =>
      self2 (v2 + (1 : Int32)) h2) f
theorem x_X9_lay_2_0 (N : Nat) (r0 : Nat) (r1 : Nat) (v2 : Int32) (h : mH) : x_X9_lay_2 N r0 r1 0 v2 h = none := rfl
theorem x_X9_lay_2_s (N : Nat) (r0 : Nat) (r1 : Nat) (f : Nat) (v2 : Int32) (h : mH) : x_X9_lay_2 N r0 r1 (f + 1) v2 h = (
    if (32 : Int32) ≤ v2 then
      some h
    else
      mck v2 32 <|
      mck v2 32 <|
      mlet (msi h r0 (v2).toNatClampNeg (mgi h r1 (v2).toNatClampNeg)) fun h2 =>
      (x_X9_lay_2 N r0 r1 f) (v2 + (1 : Int32)) h2) := rfl
set_option maxRecDepth 20000 in
set_option maxHeartbeats 4000000 in
theorem b_X9_lay_2 {g : mG} {l : Launch} (hg : mnn g = 101) (N : Nat) (r0 : Nat) (r1 : Nat) (hr0 : mkn g r0 132) (hr1 : mkn g r1 132) (f : Nat) : ∀ (v2 : Int32) (h : mH), mw g l 0 mX9_lay (fun r : mH => ((none : Option Value), r)) 2 [(0, .ref (mad g r0)), (1, .ref (mad g r1)), (2, .int v2)] [] h (x_X9_lay_2 N r0 r1 f v2 h) := by
  induction f with
  | zero => intros; exact mw_none
  | succ f hself2 =>
    intro v2 h
    refine mw_eq (x_X9_lay_2_s N r0 r1 f v2 h) ?_
    generalize x_X9_lay_2 N r0 r1 f = self2 at hself2 ⊢
    refine mw_iload_n (n := 3) (q := 2) dX9_lay_2 rfl rfl rfl ?_
    refine mw_bipush (n := 5) (v := 32) dX9_lay_3 rfl (by decide) ?_
    refine mw_icmp_ge (n := 8) (t := 20) dX9_lay_5 rfl (by decide) Iff.rfl (fun c1 => ?_) (fun c1 => ?_)
    · exact mw_vret dX9_lay_20 rfl rfl
    · refine mw_aload_n (n := 9) (q := 0) dX9_lay_8 rfl rfl rfl ?_
      refine mw_iload_n (n := 10) (q := 2) dX9_lay_9 rfl rfl rfl ?_
      refine mw_aload_n (n := 11) (q := 1) dX9_lay_10 rfl rfl rfl ?_
      refine mw_iload_n (n := 12) (q := 2) dX9_lay_11 rfl rfl rfl ?_
      refine mw_iald (n := 13) (a := r1) (N := 32) hr1 dX9_lay_12 rfl ?_
      refine mw_iast (n := 14) (a := r0) (N := 32) hr0 dX9_lay_13 rfl (mw_leth (fun h2 => ?_))
      refine mw_iinc (n := 17) (q := 2) (v := (v2 + (1 : Int32))) dX9_lay_14 rfl rfl rfl (by decide) rfl ?_
      refine mw_goto (n := 2) dX9_lay_17 (by decide) ?_
      refine mw_sub [1, 2, 0] rfl ?_
      exact hself2 (v2 + (1 : Int32)) h2
noncomputable def x_X9_lay (N : Nat) (p0 : Nat) (p1 : Nat) (h : mH) : Option (mH) :=
  x_X9_lay_2 N p0 p1 N (0 : Int32) h
set_option maxRecDepth 20000 in
set_option maxHeartbeats 4000000 in
theorem t_X9_lay {g : mG} {l : Launch} (hg : mnn g = 101) (N : Nat) (p0 : Nat) (p1 : Nat) (hp0 : mkn g p0 132) (hp1 : mkn g p1 132) (h : mH) : mf g l 0 mX9_lay (fun r : mH => ((none : Option Value), r)) [.ref (mad g p0), .ref (mad g p1)] h (x_X9_lay N p0 p1 h) := by
  refine mf_of (by decide) (Nat.le_of_ble_eq_true rfl) ?_
  show mw g l 0 mX9_lay (fun r : mH => ((none : Option Value), r)) 0 [(0, .ref (mad g p0)), (1, .ref (mad g p1))] [] h _
  unfold x_X9_lay
  refine mw_iconst (n := 1) (v := 0) dX9_lay_0 rfl (by decide) ?_
  refine mw_istore_n (n := 2) dX9_lay_1 rfl rfl (by decide) rfl ?_
  refine mw_sub [1, 2, 0] rfl ?_
  exact b_X9_lay_2 hg N p0 p1 hp0 hp1 N (0 : Int32) h
noncomputable def x_X9_write (p0 : Int32) (h : mH) : Option (Int32 × mH) :=
  mlet (msi h 82 0 (0 : Int32)) fun h1 =>
  (x_X9_in ((p0).toInt64) (0 : Int64) (255 : Int64)).bind fun q2 =>
  if ¬ q2 = 0 then
    if ¬ (mgi h1 82 2) = (40 : Int32) then
      mck (mgi h1 82 2) 40 <|
      mlet (msi h1 83 ((mgi h1 82 2)).toNatClampNeg p0) fun h5 =>
      mlet (msi h5 82 2 ((mgi h5 82 2) + (1 : Int32))) fun h6 =>
      some ((mgi h6 82 2), h6)
    else
      some ((-4 : Int32), h1)
  else
    some ((-2 : Int32), h1)
set_option maxRecDepth 20000 in
set_option maxHeartbeats 4000000 in
theorem t_X9_write {g : mG} {l : Launch} (hg : mnn g = 101) (p0 : Int32) (h : mH) : mf g l 1 mX9_write (fun r : Int32 × mH => (some (Value.int r.1), r.2)) [.ref (mad g 82), .int p0] h (x_X9_write p0 h) := by
  refine mf_of (by decide) (Nat.le_of_ble_eq_true rfl) ?_
  show mw g l 1 mX9_write (fun r : Int32 × mH => (some (Value.int r.1), r.2)) 0 [(0, .ref (mad g 82)), (1, .int p0)] [] h _
  unfold x_X9_write
  refine mw_aload_n (n := 1) (q := 0) dX9_write_0 rfl rfl rfl ?_
  refine mw_iconst (n := 2) (v := 0) dX9_write_1 rfl (by decide) ?_
  refine mw_puti (n := 5) (a := 82) (k := 0) cl9 ct9 (mkm hg (by decide) (by rfl)) (by decide) rfl rfl rfl rfl fl_X9_65 dX9_write_2 rfl (mw_leth (fun h1 => ?_))
  refine mw_iload_n (n := 6) (q := 1) dX9_write_5 rfl rfl rfl ?_
  refine mw_i2l (n := 7) dX9_write_6 rfl ?_
  refine mw_lconst (n := 8) (v := 0) dX9_write_7 rfl (by decide) ?_
  refine mw_ldc2 (n := 11) dX9_write_8 rfl kl_X9_81 ?_
  refine mw_callS (n := 14) (As := [.long (p0).toInt64, .long (0 : Int64), .long (255 : Int64)]) (t_X9_in hg ((p0).toInt64) (0 : Int64) (255 : Int64) h1) (by decide) ok_X9_in rfl lk_X9_77 sm_X9_in dX9_write_11 rfl rfl (Nat.le_of_ble_eq_true rfl) (fun q2 _ => ?_)
  show mw g l _ _ _ 14 _ [.int q2] h1 _
  refine mw_if_ne (n := 17) (t := 20) dX9_write_14 rfl (by decide) Iff.rfl (fun c3 => ?_) (fun c3 => ?_)
  · refine mw_aload_n (n := 21) (q := 0) dX9_write_20 rfl rfl rfl ?_
    refine mw_geti (n := 24) (a := 82) (k := 2) cl9 (mkm hg (by decide) (by rfl)) (by decide) rfl rfl fl_X9_83 dX9_write_21 rfl ?_
    refine mw_bipush (n := 26) (v := 40) dX9_write_24 rfl (by decide) ?_
    refine mw_icmp_ne (n := 29) (t := 32) dX9_write_26 rfl (by decide) Iff.rfl (fun c4 => ?_) (fun c4 => ?_)
    · refine mw_aload_n (n := 33) (q := 0) dX9_write_32 rfl rfl rfl ?_
      refine mw_getr (n := 36) (a := 82) (k := 1) cl9 (mkm hg (by decide) (by rfl)) (by decide) rfl rfl fl_X9_7 dX9_write_33 rfl ?_
      refine mw_aload_n (n := 37) (q := 0) dX9_write_36 rfl rfl rfl ?_
      refine mw_geti (n := 40) (a := 82) (k := 2) cl9 (mkm hg (by decide) (by rfl)) (by decide) rfl rfl fl_X9_83 dX9_write_37 rfl ?_
      refine mw_iload_n (n := 41) (q := 1) dX9_write_40 rfl rfl rfl ?_
      refine mw_iast (n := 42) (a := 83) (N := 40) (mkm hg (by decide) (by rfl)) dX9_write_41 rfl (mw_leth (fun h5 => ?_))
      refine mw_aload_n (n := 43) (q := 0) dX9_write_42 rfl rfl rfl ?_
      refine mw_dup (n := 44) dX9_write_43 rfl rfl ?_
      refine mw_geti (n := 47) (a := 82) (k := 2) cl9 (mkm hg (by decide) (by rfl)) (by decide) rfl rfl fl_X9_83 dX9_write_44 rfl ?_
      refine mw_iconst (n := 48) (v := 1) dX9_write_47 rfl (by decide) ?_
      refine mw_iadd (n := 49) dX9_write_48 rfl ?_
      refine mw_puti (n := 52) (a := 82) (k := 2) cl9 ct9 (mkm hg (by decide) (by rfl)) (by decide) rfl rfl rfl rfl fl_X9_83 dX9_write_49 rfl (mw_leth (fun h6 => ?_))
      refine mw_aload_n (n := 53) (q := 0) dX9_write_52 rfl rfl rfl ?_
      refine mw_geti (n := 56) (a := 82) (k := 2) cl9 (mkm hg (by decide) (by rfl)) (by decide) rfl rfl fl_X9_83 dX9_write_53 rfl ?_
      exact mw_iret dX9_write_56 rfl rfl
    · refine mw_bipush (n := 31) (v := -4) dX9_write_29 rfl (by decide) ?_
      exact mw_iret dX9_write_31 rfl rfl
  · refine mw_bipush (n := 19) (v := -2) dX9_write_17 rfl (by decide) ?_
    exact mw_iret dX9_write_19 rfl rfl
noncomputable def x_X9_wipe (h : mH) : Option (Int32 × mH) :=
  mlet (msi h 82 0 (0 : Int32)) fun h1 =>
  mlet (mgi h1 82 2) fun u2 =>
  mlet (msi h1 82 2 (0 : Int32)) fun h3 =>
  some (u2, h3)
set_option maxRecDepth 20000 in
set_option maxHeartbeats 4000000 in
theorem t_X9_wipe {g : mG} {l : Launch} (hg : mnn g = 101) (h : mH) : mf g l 0 mX9_wipe (fun r : Int32 × mH => (some (Value.int r.1), r.2)) [.ref (mad g 82)] h (x_X9_wipe h) := by
  refine mf_of (by decide) (Nat.le_of_ble_eq_true rfl) ?_
  show mw g l 0 mX9_wipe (fun r : Int32 × mH => (some (Value.int r.1), r.2)) 0 [(0, .ref (mad g 82))] [] h _
  unfold x_X9_wipe
  refine mw_aload_n (n := 1) (q := 0) dX9_wipe_0 rfl rfl rfl ?_
  refine mw_iconst (n := 2) (v := 0) dX9_wipe_1 rfl (by decide) ?_
  refine mw_puti (n := 5) (a := 82) (k := 0) cl9 ct9 (mkm hg (by decide) (by rfl)) (by decide) rfl rfl rfl rfl fl_X9_65 dX9_wipe_2 rfl (mw_leth (fun h1 => ?_))
  refine mw_aload_n (n := 6) (q := 0) dX9_wipe_5 rfl rfl rfl ?_
  refine mw_geti (n := 9) (a := 82) (k := 2) cl9 (mkm hg (by decide) (by rfl)) (by decide) rfl rfl fl_X9_83 dX9_wipe_6 rfl ?_
  refine mw_letI (fun u2 => ?_)
  refine mw_istore_n (n := 10) dX9_wipe_9 rfl rfl (by decide) rfl ?_
  refine mw_aload_n (n := 11) (q := 1) dX9_wipe_10 rfl rfl rfl ?_
  refine mw_iconst (n := 12) (v := 0) dX9_wipe_11 rfl (by decide) ?_
  refine mw_puti (n := 15) (a := 82) (k := 2) cl9 ct9 (mkm hg (by decide) (by rfl)) (by decide) rfl rfl rfl rfl fl_X9_83 dX9_wipe_12 rfl (mw_leth (fun h3 => ?_))
  refine mw_iload_n (n := 16) (q := 0) dX9_wipe_15 rfl rfl rfl ?_
  exact mw_iret dX9_wipe_16 rfl rfl
noncomputable def x_X9_figure (p0 : Int32) (p1 : Int32) (p2 : Int32) (h : mH) : Option (Int32) :=
  if (mgi h 82 2) ≤ p0 then
    some (-9 : Int32)
  else
    mck p0 40 <|
    (x_X9_in ((((mgi h 83 (p0).toNatClampNeg) - (48 : Int32))).toInt64) ((p1).toInt64) ((p2).toInt64)).bind fun q2 =>
    if q2 = 0 then
      some (-9 : Int32)
    else
      mck p0 40 <|
      some ((mgi h 83 (p0).toNatClampNeg) - (48 : Int32))
set_option maxRecDepth 20000 in
set_option maxHeartbeats 4000000 in
theorem t_X9_figure {g : mG} {l : Launch} (hg : mnn g = 101) (p0 : Int32) (p1 : Int32) (p2 : Int32) (h : mH) : mf g l 1 mX9_figure (fun r : Int32 => (some (Value.int r), h)) [.ref (mad g 82), .int p0, .int p1, .int p2] h (x_X9_figure p0 p1 p2 h) := by
  refine mf_of (by decide) (Nat.le_of_ble_eq_true rfl) ?_
  show mw g l 1 mX9_figure (fun r : Int32 => (some (Value.int r), h)) 0 [(0, .ref (mad g 82)), (1, .int p0), (2, .int p1), (3, .int p2)] [] h _
  unfold x_X9_figure
  refine mw_iload_n (n := 1) (q := 1) dX9_figure_0 rfl rfl rfl ?_
  refine mw_aload_n (n := 2) (q := 0) dX9_figure_1 rfl rfl rfl ?_
  refine mw_geti (n := 5) (a := 82) (k := 2) cl9 (mkm hg (by decide) (by rfl)) (by decide) rfl rfl fl_X9_83 dX9_figure_2 rfl ?_
  refine mw_icmp_ge (n := 8) (t := 40) dX9_figure_5 rfl (by decide) Iff.rfl (fun c1 => ?_) (fun c1 => ?_)
  · refine mw_bipush (n := 42) (v := -9) dX9_figure_40 rfl (by decide) ?_
    exact mw_iret dX9_figure_42 rfl rfl
  · refine mw_aload_n (n := 9) (q := 0) dX9_figure_8 rfl rfl rfl ?_
    refine mw_getr (n := 12) (a := 82) (k := 1) cl9 (mkm hg (by decide) (by rfl)) (by decide) rfl rfl fl_X9_7 dX9_figure_9 rfl ?_
    refine mw_iload_n (n := 13) (q := 1) dX9_figure_12 rfl rfl rfl ?_
    refine mw_iald (n := 14) (a := 83) (N := 40) (mkm hg (by decide) (by rfl)) dX9_figure_13 rfl ?_
    refine mw_bipush (n := 16) (v := 48) dX9_figure_14 rfl (by decide) ?_
    refine mw_isub (n := 17) dX9_figure_16 rfl ?_
    refine mw_i2l (n := 18) dX9_figure_17 rfl ?_
    refine mw_iload_n (n := 19) (q := 2) dX9_figure_18 rfl rfl rfl ?_
    refine mw_i2l (n := 20) dX9_figure_19 rfl ?_
    refine mw_iload_n (n := 21) (q := 3) dX9_figure_20 rfl rfl rfl ?_
    refine mw_i2l (n := 22) dX9_figure_21 rfl ?_
    refine mw_callS (n := 25) (As := [.long (((mgi h 83 (p0).toNatClampNeg) - (48 : Int32))).toInt64, .long (p1).toInt64, .long (p2).toInt64]) (t_X9_in hg ((((mgi h 83 (p0).toNatClampNeg) - (48 : Int32))).toInt64) ((p1).toInt64) ((p2).toInt64) h) (by decide) ok_X9_in rfl lk_X9_77 sm_X9_in dX9_figure_22 rfl rfl (Nat.le_of_ble_eq_true rfl) (fun q2 _ => ?_)
    show mw g l _ _ _ 25 _ [.int q2] h _
    refine mw_if_eq (n := 28) (t := 40) dX9_figure_25 rfl (by decide) Iff.rfl (fun c3 => ?_) (fun c3 => ?_)
    · refine mw_bipush (n := 42) (v := -9) dX9_figure_40 rfl (by decide) ?_
      exact mw_iret dX9_figure_42 rfl rfl
    · refine mw_aload_n (n := 29) (q := 0) dX9_figure_28 rfl rfl rfl ?_
      refine mw_getr (n := 32) (a := 82) (k := 1) cl9 (mkm hg (by decide) (by rfl)) (by decide) rfl rfl fl_X9_7 dX9_figure_29 rfl ?_
      refine mw_iload_n (n := 33) (q := 1) dX9_figure_32 rfl rfl rfl ?_
      refine mw_iald (n := 34) (a := 83) (N := 40) (mkm hg (by decide) (by rfl)) dX9_figure_33 rfl ?_
      refine mw_bipush (n := 36) (v := 48) dX9_figure_34 rfl (by decide) ?_
      refine mw_isub (n := 37) dX9_figure_36 rfl ?_
      refine mw_goto (n := 42) dX9_figure_37 (by decide) ?_
      exact mw_iret dX9_figure_42 rfl rfl
noncomputable def x_X9_pinned_4 (N : Nat) (r0 : Nat) (h : mH) (f : Nat) : Int32 → Int32 → Option (Int32) :=
  Nat.rec (motive := fun _ => Int32 → Int32 → Option (Int32)) (fun _ _ => none) (fun _ self4 => fun v1 v2 => 
    (x_X9_cells r0 h).bind fun q1 =>
    if q1 ≤ v2 then
      some v1
    else
      mck ((11 : Int32) + v2) 32 <|
      mlet (v1 + (if (mgi h r0 (((11 : Int32) + v2)).toNatClampNeg) ≤ 0 then (0 : Int32) else (1 : Int32))) fun u4 =>
      self4 u4 (v2 + (1 : Int32))) f
theorem x_X9_pinned_4_0 (N : Nat) (r0 : Nat) (h : mH) (v1 : Int32) (v2 : Int32) : x_X9_pinned_4 N r0 h 0 v1 v2 = none := rfl
theorem x_X9_pinned_4_s (N : Nat) (r0 : Nat) (h : mH) (f : Nat) (v1 : Int32) (v2 : Int32) : x_X9_pinned_4 N r0 h (f + 1) v1 v2 = (
    (x_X9_cells r0 h).bind fun q1 =>
    if q1 ≤ v2 then
      some v1
    else
      mck ((11 : Int32) + v2) 32 <|
      mlet (v1 + (if (mgi h r0 (((11 : Int32) + v2)).toNatClampNeg) ≤ 0 then (0 : Int32) else (1 : Int32))) fun u4 =>
      (x_X9_pinned_4 N r0 h f) u4 (v2 + (1 : Int32))) := rfl
set_option maxRecDepth 20000 in
set_option maxHeartbeats 4000000 in
theorem b_X9_pinned_4 {g : mG} {l : Launch} (hg : mnn g = 101) (N : Nat) (r0 : Nat) (h : mH) (hr0 : mkn g r0 132) (f : Nat) : ∀ (v1 : Int32) (v2 : Int32), mw g l 1 mX9_pinned (fun r : Int32 => (some (Value.int r), h)) 4 [(0, .ref (mad g r0)), (1, .int v1), (2, .int v2)] [] h (x_X9_pinned_4 N r0 h f v1 v2) := by
  induction f with
  | zero => intros; exact mw_none
  | succ f hself4 =>
    intro v1 v2
    refine mw_eq (x_X9_pinned_4_s N r0 h f v1 v2) ?_
    generalize x_X9_pinned_4 N r0 h f = self4 at hself4 ⊢
    refine mw_iload_n (n := 5) (q := 2) dX9_pinned_4 rfl rfl rfl ?_
    refine mw_aload_n (n := 6) (q := 0) dX9_pinned_5 rfl rfl rfl ?_
    refine mw_callS (n := 9) (As := [.ref (mad g r0)]) (t_X9_cells hg r0 hr0 h) (by decide) ok_X9_cells rfl lk_X9_69 sm_X9_cells dX9_pinned_6 rfl rfl (Nat.le_of_ble_eq_true rfl) (fun q1 _ => ?_)
    show mw g l _ _ _ 9 _ [.int q1, .int v2] h _
    refine mw_icmp_ge (n := 12) (t := 35) dX9_pinned_9 rfl (by decide) Iff.rfl (fun c2 => ?_) (fun c2 => ?_)
    · refine mw_iload_n (n := 36) (q := 1) dX9_pinned_35 rfl rfl rfl ?_
      exact mw_iret dX9_pinned_36 rfl rfl
    · refine mw_iload_n (n := 13) (q := 1) dX9_pinned_12 rfl rfl rfl ?_
      refine mw_aload_n (n := 14) (q := 0) dX9_pinned_13 rfl rfl rfl ?_
      refine mw_bipush (n := 16) (v := 11) dX9_pinned_14 rfl (by decide) ?_
      refine mw_iload_n (n := 17) (q := 2) dX9_pinned_16 rfl rfl rfl ?_
      refine mw_iadd (n := 18) dX9_pinned_17 rfl ?_
      refine mw_iald (n := 19) (a := r0) (N := 32) hr0 dX9_pinned_18 rfl ?_
      refine mw_cutJ (pc' := 27) (lv' := [(0, .ref (mad g r0)), (1, .int v1), (2, .int v2)]) (st' := [.int (if (mgi h r0 (((11 : Int32) + v2)).toNatClampNeg) ≤ 0 then (0 : Int32) else (1 : Int32)), .int v1]) (fun J => ?_) ?_
      · refine mw_if_le_m (n := 22) (t := 26) dX9_pinned_19 rfl (by decide) (fun c3 => ?_) (fun c3 => ?_)
        · refine mw_iconst (n := 27) (v := 0) dX9_pinned_26 rfl (by decide) ?_
          exact mw_topeq (if_pos c3).symm J
        · refine mw_iconst (n := 23) (v := 1) dX9_pinned_22 rfl (by decide) ?_
          refine mw_goto (n := 27) dX9_pinned_23 (by decide) ?_
          exact mw_topeq (if_neg c3).symm J
      refine mw_iadd (n := 28) dX9_pinned_27 rfl ?_
      refine mw_letI (fun u4 => ?_)
      refine mw_istore_n (n := 29) dX9_pinned_28 rfl rfl (by decide) rfl ?_
      refine mw_iinc (n := 32) (q := 2) (v := (v2 + (1 : Int32))) dX9_pinned_29 rfl rfl rfl (by decide) rfl ?_
      refine mw_goto (n := 4) dX9_pinned_32 (by decide) ?_
      refine mw_sub [2, 1, 0] rfl ?_
      exact hself4 u4 (v2 + (1 : Int32))
noncomputable def x_X9_pinned (N : Nat) (p0 : Nat) (h : mH) : Option (Int32) :=
  x_X9_pinned_4 N p0 h N (0 : Int32) (0 : Int32)
set_option maxRecDepth 20000 in
set_option maxHeartbeats 4000000 in
theorem t_X9_pinned {g : mG} {l : Launch} (hg : mnn g = 101) (N : Nat) (p0 : Nat) (hp0 : mkn g p0 132) (h : mH) : mf g l 1 mX9_pinned (fun r : Int32 => (some (Value.int r), h)) [.ref (mad g p0)] h (x_X9_pinned N p0 h) := by
  refine mf_of (by decide) (Nat.le_of_ble_eq_true rfl) ?_
  show mw g l 1 mX9_pinned (fun r : Int32 => (some (Value.int r), h)) 0 [(0, .ref (mad g p0))] [] h _
  unfold x_X9_pinned
  refine mw_iconst (n := 1) (v := 0) dX9_pinned_0 rfl (by decide) ?_
  refine mw_istore_n (n := 2) dX9_pinned_1 rfl rfl (by decide) rfl ?_
  refine mw_iconst (n := 3) (v := 0) dX9_pinned_2 rfl (by decide) ?_
  refine mw_istore_n (n := 4) dX9_pinned_3 rfl rfl (by decide) rfl ?_
  refine mw_sub [2, 1, 0] rfl ?_
  exact b_X9_pinned_4 hg N p0 h hp0 N (0 : Int32) (0 : Int32)
noncomputable def x_X9_isFullRow_35 (N : Nat) (self4 : Int32 → Int32 → Option (Int32)) (r0 : Nat) (v1 : Int32) (v3 : Int32) (s0 : Int32) (h : mH) : Option (Int32) :=
  self4 s0 (v3 + (1 : Int32))
set_option maxRecDepth 20000 in
set_option maxHeartbeats 4000000 in
theorem b_X9_isFullRow_35 {g : mG} {l : Launch} (hg : mnn g = 101) (N : Nat) (r0 : Nat) (v1 : Int32) (v3 : Int32) (s0 : Int32) (h : mH) (self4 : Int32 → Int32 → Option (Int32)) (hself4 : ∀ (v2 : Int32) (v3 : Int32), mw g l 0 mX9_isFullRow (fun r : Int32 => (some (Value.int r), h)) 4 [(0, .ref (mad g r0)), (1, .int v1), (2, .int v2), (3, .int v3)] [] h (self4 v2 v3)) (hr0 : mkn g r0 132) : mw g l 0 mX9_isFullRow (fun r : Int32 => (some (Value.int r), h)) 35 [(0, .ref (mad g r0)), (1, .int v1), (3, .int v3)] [.int s0] h (x_X9_isFullRow_35 N self4 r0 v1 v3 s0 h) := by
  unfold x_X9_isFullRow_35
  refine mw_istore_n (n := 36) dX9_isFullRow_35 rfl rfl (by decide) rfl ?_
  refine mw_iinc (n := 39) (q := 3) (v := (v3 + (1 : Int32))) dX9_isFullRow_36 rfl rfl rfl (by decide) rfl ?_
  refine mw_goto (n := 4) dX9_isFullRow_39 (by decide) ?_
  refine mw_sub [2, 3, 1, 0] rfl ?_
  exact hself4 s0 (v3 + (1 : Int32))
noncomputable def x_X9_isFullRow_34 (N : Nat) (self4 : Int32 → Int32 → Option (Int32)) (r0 : Nat) (v1 : Int32) (v3 : Int32) (h : mH) : Option (Int32) :=
  x_X9_isFullRow_35 N self4 r0 v1 v3 (0 : Int32) h
set_option maxRecDepth 20000 in
set_option maxHeartbeats 4000000 in
theorem b_X9_isFullRow_34 {g : mG} {l : Launch} (hg : mnn g = 101) (N : Nat) (r0 : Nat) (v1 : Int32) (v3 : Int32) (h : mH) (self4 : Int32 → Int32 → Option (Int32)) (hself4 : ∀ (v2 : Int32) (v3 : Int32), mw g l 0 mX9_isFullRow (fun r : Int32 => (some (Value.int r), h)) 4 [(0, .ref (mad g r0)), (1, .int v1), (2, .int v2), (3, .int v3)] [] h (self4 v2 v3)) (hr0 : mkn g r0 132) : mw g l 0 mX9_isFullRow (fun r : Int32 => (some (Value.int r), h)) 34 [(0, .ref (mad g r0)), (1, .int v1), (3, .int v3)] [] h (x_X9_isFullRow_34 N self4 r0 v1 v3 h) := by
  unfold x_X9_isFullRow_34
  refine mw_iconst (n := 35) (v := 0) dX9_isFullRow_34 rfl (by decide) ?_
  exact b_X9_isFullRow_35 hg N r0 v1 v3 (0 : Int32) h self4 hself4 hr0
noncomputable def x_X9_isFullRow_4 (N : Nat) (r0 : Nat) (v1 : Int32) (h : mH) (f : Nat) : Int32 → Int32 → Option (Int32) :=
  Nat.rec (motive := fun _ => Int32 → Int32 → Option (Int32)) (fun _ _ => none) (fun _ self4 => fun v2 v3 => 
    if (mgi h r0 1) ≤ v3 then
      mzc v2 (some v2)
    else
      if v2 = 0 then
        x_X9_isFullRow_34 N self4 r0 v1 v3 h
      else
        mck (((11 : Int32) + ((mgi h r0 1) * v1)) + v3) 32 <|
        mlet (if (mgi h r0 ((((11 : Int32) + ((mgi h r0 1) * v1)) + v3)).toNatClampNeg) ≤ 0 then (0 : Int32) else (1 : Int32)) fun u4 =>
        self4 u4 (v3 + (1 : Int32))) f
theorem x_X9_isFullRow_4_0 (N : Nat) (r0 : Nat) (v1 : Int32) (h : mH) (v2 : Int32) (v3 : Int32) : x_X9_isFullRow_4 N r0 v1 h 0 v2 v3 = none := rfl
theorem x_X9_isFullRow_4_s (N : Nat) (r0 : Nat) (v1 : Int32) (h : mH) (f : Nat) (v2 : Int32) (v3 : Int32) : x_X9_isFullRow_4 N r0 v1 h (f + 1) v2 v3 = (
    if (mgi h r0 1) ≤ v3 then
      mzc v2 (some v2)
    else
      if v2 = 0 then
        x_X9_isFullRow_34 N (x_X9_isFullRow_4 N r0 v1 h f) r0 v1 v3 h
      else
        mck (((11 : Int32) + ((mgi h r0 1) * v1)) + v3) 32 <|
        mlet (if (mgi h r0 ((((11 : Int32) + ((mgi h r0 1) * v1)) + v3)).toNatClampNeg) ≤ 0 then (0 : Int32) else (1 : Int32)) fun u4 =>
        (x_X9_isFullRow_4 N r0 v1 h f) u4 (v3 + (1 : Int32))) := rfl
set_option maxRecDepth 20000 in
set_option maxHeartbeats 4000000 in
theorem b_X9_isFullRow_4 {g : mG} {l : Launch} (hg : mnn g = 101) (N : Nat) (r0 : Nat) (v1 : Int32) (h : mH) (hr0 : mkn g r0 132) (f : Nat) : ∀ (v2 : Int32) (v3 : Int32), mw g l 0 mX9_isFullRow (fun r : Int32 => (some (Value.int r), h)) 4 [(0, .ref (mad g r0)), (1, .int v1), (2, .int v2), (3, .int v3)] [] h (x_X9_isFullRow_4 N r0 v1 h f v2 v3) := by
  induction f with
  | zero => intros; exact mw_none
  | succ f hself4 =>
    intro v2 v3
    refine mw_eq (x_X9_isFullRow_4_s N r0 v1 h f v2 v3) ?_
    generalize x_X9_isFullRow_4 N r0 v1 h f = self4 at hself4 ⊢
    refine mw_iload_n (n := 5) (q := 3) dX9_isFullRow_4 rfl rfl rfl ?_
    refine mw_aload_n (n := 6) (q := 0) dX9_isFullRow_5 rfl rfl rfl ?_
    refine mw_iconst (n := 7) (v := 1) dX9_isFullRow_6 rfl (by decide) ?_
    refine mw_iaLd (n := 8) (a := r0) (j := 1) (N := 32) hr0 (by decide) (by decide) dX9_isFullRow_7 rfl ?_
    refine mw_icmp_ge (n := 11) (t := 42) dX9_isFullRow_8 rfl (by decide) Iff.rfl (fun c1 => ?_) (fun c1 => ?_)
    · refine mw_iload_n (n := 43) (q := 2) dX9_isFullRow_42 rfl rfl rfl ?_
      exact mw_zretC dX9_isFullRow_43 rfl rfl
    · refine mw_iload_n (n := 12) (q := 2) dX9_isFullRow_11 rfl rfl rfl ?_
      refine mw_if_eq (n := 15) (t := 34) dX9_isFullRow_12 rfl (by decide) Iff.rfl (fun c2 => ?_) (fun c2 => ?_)
      · refine mw_sub [0, 1, 3] rfl ?_
        exact b_X9_isFullRow_34 hg N r0 v1 v3 h self4 hself4 hr0
      · refine mw_aload_n (n := 16) (q := 0) dX9_isFullRow_15 rfl rfl rfl ?_
        refine mw_bipush (n := 18) (v := 11) dX9_isFullRow_16 rfl (by decide) ?_
        refine mw_aload_n (n := 19) (q := 0) dX9_isFullRow_18 rfl rfl rfl ?_
        refine mw_iconst (n := 20) (v := 1) dX9_isFullRow_19 rfl (by decide) ?_
        refine mw_iaLd (n := 21) (a := r0) (j := 1) (N := 32) hr0 (by decide) (by decide) dX9_isFullRow_20 rfl ?_
        refine mw_iload_n (n := 22) (q := 1) dX9_isFullRow_21 rfl rfl rfl ?_
        refine mw_imul (n := 23) dX9_isFullRow_22 rfl ?_
        refine mw_iadd (n := 24) dX9_isFullRow_23 rfl ?_
        refine mw_iload_n (n := 25) (q := 3) dX9_isFullRow_24 rfl rfl rfl ?_
        refine mw_iadd (n := 26) dX9_isFullRow_25 rfl ?_
        refine mw_iald (n := 27) (a := r0) (N := 32) hr0 dX9_isFullRow_26 rfl ?_
        refine mw_cutJ (pc' := 35) (lv' := [(0, .ref (mad g r0)), (1, .int v1), (2, .int v2), (3, .int v3)]) (st' := [.int (if (mgi h r0 ((((11 : Int32) + ((mgi h r0 1) * v1)) + v3)).toNatClampNeg) ≤ 0 then (0 : Int32) else (1 : Int32))]) (fun J => ?_) ?_
        · refine mw_if_le_m (n := 30) (t := 34) dX9_isFullRow_27 rfl (by decide) (fun c3 => ?_) (fun c3 => ?_)
          · refine mw_iconst (n := 35) (v := 0) dX9_isFullRow_34 rfl (by decide) ?_
            exact mw_topeq (if_pos c3).symm J
          · refine mw_iconst (n := 31) (v := 1) dX9_isFullRow_30 rfl (by decide) ?_
            refine mw_goto (n := 35) dX9_isFullRow_31 (by decide) ?_
            exact mw_topeq (if_neg c3).symm J
        refine mw_letI (fun u4 => ?_)
        refine mw_istore_n (n := 36) dX9_isFullRow_35 rfl rfl (by decide) rfl ?_
        refine mw_iinc (n := 39) (q := 3) (v := (v3 + (1 : Int32))) dX9_isFullRow_36 rfl rfl rfl (by decide) rfl ?_
        refine mw_goto (n := 4) dX9_isFullRow_39 (by decide) ?_
        refine mw_sub [2, 3, 1, 0] rfl ?_
        exact hself4 u4 (v3 + (1 : Int32))
noncomputable def x_X9_isFullRow (N : Nat) (p0 : Nat) (p1 : Int32) (h : mH) : Option (Int32) :=
  x_X9_isFullRow_4 N p0 p1 h N (1 : Int32) (0 : Int32)
set_option maxRecDepth 20000 in
set_option maxHeartbeats 4000000 in
theorem t_X9_isFullRow {g : mG} {l : Launch} (hg : mnn g = 101) (N : Nat) (p0 : Nat) (p1 : Int32) (hp0 : mkn g p0 132) (h : mH) : mf g l 0 mX9_isFullRow (fun r : Int32 => (some (Value.int r), h)) [.ref (mad g p0), .int p1] h (x_X9_isFullRow N p0 p1 h) := by
  refine mf_of (by decide) (Nat.le_of_ble_eq_true rfl) ?_
  show mw g l 0 mX9_isFullRow (fun r : Int32 => (some (Value.int r), h)) 0 [(0, .ref (mad g p0)), (1, .int p1)] [] h _
  unfold x_X9_isFullRow
  refine mw_iconst (n := 1) (v := 1) dX9_isFullRow_0 rfl (by decide) ?_
  refine mw_istore_n (n := 2) dX9_isFullRow_1 rfl rfl (by decide) rfl ?_
  refine mw_iconst (n := 3) (v := 0) dX9_isFullRow_2 rfl (by decide) ?_
  refine mw_istore_n (n := 4) dX9_isFullRow_3 rfl rfl (by decide) rfl ?_
  refine mw_sub [2, 3, 1, 0] rfl ?_
  exact b_X9_isFullRow_4 hg N p0 p1 h hp0 N (1 : Int32) (0 : Int32)
noncomputable def x_X9_readPins_51 (N : Nat) (self2 : Int32 → mH → Option (Int32 × mH)) (v2 : Int32) (v3 : Int32) (v4 : Int32) (h : mH) : Option (Int32 × mH) :=
  if v4 = (6 : Int32) then
    some (v2, h)
  else
    (x_X9_cells 84 h).bind fun q2 =>
    if ¬ v4 = q2 then
      (x_X9_figure (v2 + (1 : Int32)) (0 : Int32) ((mgi h 84 0) - (1 : Int32)) h).bind fun q4 =>
      if q4 = (-9 : Int32) then
        some ((v2 + (1 : Int32)), h)
      else
        (x_X9_isFullRow N 84 q4 h).bind fun q6 =>
        if q6 = 0 then
          (x_X9_figure (v2 + (2 : Int32)) (0 : Int32) ((mgi h 84 1) - (1 : Int32)) h).bind fun q8 =>
          if q8 = (-9 : Int32) then
            some ((v2 + (2 : Int32)), h)
          else
            mck (((11 : Int32) + ((mgi h 84 1) * q4)) + q8) 32 <|
            if (mgi h 84 ((((11 : Int32) + ((mgi h 84 1) * q4)) + q8)).toNatClampNeg) ≤ 0 then
              mck (((11 : Int32) + ((mgi h 84 1) * q4)) + q8) 32 <|
              mlet (msi h 84 ((((11 : Int32) + ((mgi h 84 1) * q4)) + q8)).toNatClampNeg (if v3 = 0 then (2 : Int32) else (1 : Int32))) fun h12 =>
              self2 (v2 + (3 : Int32)) h12
            else
              some ((v2 + (2 : Int32)), h)
        else
          some ((v2 + (1 : Int32)), h)
    else
      some (v2, h)
set_option maxRecDepth 20000 in
set_option maxHeartbeats 4000000 in
theorem b_X9_readPins_51 {g : mG} {l : Launch} (hg : mnn g = 101) (N : Nat) (v2 : Int32) (v3 : Int32) (v4 : Int32) (self2 : Int32 → mH → Option (Int32 × mH)) (hself2 : ∀ (v2 : Int32) (h : mH), mw g l 2 mX9_readPins (fun r : Int32 × mH => (some (Value.int r.1), r.2)) 2 [(0, .ref (mad g 82)), (2, .int v2)] [] h (self2 v2 h)) (h : mH) : mw g l 2 mX9_readPins (fun r : Int32 × mH => (some (Value.int r.1), r.2)) 51 [(0, .ref (mad g 82)), (2, .int v2), (3, .int v3), (4, .int v4)] [] h (x_X9_readPins_51 N self2 v2 v3 v4 h) := by
  unfold x_X9_readPins_51
  refine mw_iload (n := 53) (q := 3) dX9_readPins_51 rfl rfl ?_
  refine mw_bipush (n := 55) (v := 6) dX9_readPins_53 rfl (by decide) ?_
  refine mw_icmp_eq (n := 58) (t := 70) dX9_readPins_55 rfl (by decide) Iff.rfl (fun c1 => ?_) (fun c1 => ?_)
  · refine mw_iload_n (n := 71) (q := 1) dX9_readPins_70 rfl rfl rfl ?_
    exact mw_iret dX9_readPins_71 rfl rfl
  · refine mw_iload (n := 60) (q := 3) dX9_readPins_58 rfl rfl ?_
    refine mw_aload_n (n := 61) (q := 0) dX9_readPins_60 rfl rfl rfl ?_
    refine mw_getr (n := 64) (a := 82) (k := 3) cl9 (mkm hg (by decide) (by rfl)) (by decide) rfl rfl fl_X9_13 dX9_readPins_61 rfl ?_
    refine mw_callS (n := 67) (As := [.ref (mad g 84)]) (t_X9_cells hg 84 (mkm hg (by decide) (by rfl)) h) (by decide) ok_X9_cells rfl lk_X9_69 sm_X9_cells dX9_readPins_64 rfl rfl (Nat.le_of_ble_eq_true rfl) (fun q2 _ => ?_)
    show mw g l _ _ _ 67 _ [.int q2, .int v4] h _
    refine mw_icmp_ne (n := 70) (t := 72) dX9_readPins_67 rfl (by decide) Iff.rfl (fun c3 => ?_) (fun c3 => ?_)
    · refine mw_aload_n (n := 73) (q := 0) dX9_readPins_72 rfl rfl rfl ?_
      refine mw_iload_n (n := 74) (q := 1) dX9_readPins_73 rfl rfl rfl ?_
      refine mw_iconst (n := 75) (v := 1) dX9_readPins_74 rfl (by decide) ?_
      refine mw_iadd (n := 76) dX9_readPins_75 rfl ?_
      refine mw_iconst (n := 77) (v := 0) dX9_readPins_76 rfl (by decide) ?_
      refine mw_aload_n (n := 78) (q := 0) dX9_readPins_77 rfl rfl rfl ?_
      refine mw_getr (n := 81) (a := 82) (k := 3) cl9 (mkm hg (by decide) (by rfl)) (by decide) rfl rfl fl_X9_13 dX9_readPins_78 rfl ?_
      refine mw_iconst (n := 82) (v := 0) dX9_readPins_81 rfl (by decide) ?_
      refine mw_iaLd (n := 83) (a := 84) (j := 0) (N := 32) (mkm hg (by decide) (by rfl)) (by decide) (by decide) dX9_readPins_82 rfl ?_
      refine mw_iconst (n := 84) (v := 1) dX9_readPins_83 rfl (by decide) ?_
      refine mw_isub (n := 85) dX9_readPins_84 rfl ?_
      refine mw_callV (n := 88) (a := 82) (As := [.int (v2 + (1 : Int32)), .int (0 : Int32), .int ((mgi h 84 0) - (1 : Int32))]) cl9 (mkm hg (by decide) (by rfl)) (t_X9_figure hg (v2 + (1 : Int32)) (0 : Int32) ((mgi h 84 0) - (1 : Int32)) h) (by decide) ok_X9_figure rfl rfl lk_X9_89 im_X9_figure se_X9_figure dX9_readPins_85 rfl rfl (Nat.le_of_ble_eq_true rfl) (fun q4 _ => ?_)
      show mw g l _ _ _ 88 _ [.int q4] h _
      refine mw_istore (n := 90) dX9_readPins_88 rfl (by decide) rfl ?_
      refine mw_iload (n := 92) (q := 0) dX9_readPins_90 rfl rfl ?_
      refine mw_bipush (n := 94) (v := -9) dX9_readPins_92 rfl (by decide) ?_
      refine mw_icmp_eq (n := 97) (t := 109) dX9_readPins_94 rfl (by decide) Iff.rfl (fun c5 => ?_) (fun c5 => ?_)
      · refine mw_iload_n (n := 110) (q := 2) dX9_readPins_109 rfl rfl rfl ?_
        refine mw_iconst (n := 111) (v := 1) dX9_readPins_110 rfl (by decide) ?_
        refine mw_iadd (n := 112) dX9_readPins_111 rfl ?_
        exact mw_iret dX9_readPins_112 rfl rfl
      · refine mw_aload_n (n := 98) (q := 1) dX9_readPins_97 rfl rfl rfl ?_
        refine mw_getr (n := 101) (a := 82) (k := 3) cl9 (mkm hg (by decide) (by rfl)) (by decide) rfl rfl fl_X9_13 dX9_readPins_98 rfl ?_
        refine mw_iload (n := 103) (q := 0) dX9_readPins_101 rfl rfl ?_
        refine mw_callS (n := 106) (As := [.ref (mad g 84), .int q4]) (t_X9_isFullRow hg N 84 q4 (mkm hg (by decide) (by rfl)) h) (by decide) ok_X9_isFullRow rfl lk_X9_93 sm_X9_isFullRow dX9_readPins_103 rfl rfl (Nat.le_of_ble_eq_true rfl) (fun q6 _ => ?_)
        show mw g l _ _ _ 106 _ [.int q6] h _
        refine mw_if_eq (n := 109) (t := 113) dX9_readPins_106 rfl (by decide) Iff.rfl (fun c7 => ?_) (fun c7 => ?_)
        · refine mw_aload_n (n := 114) (q := 1) dX9_readPins_113 rfl rfl rfl ?_
          refine mw_iload_n (n := 115) (q := 2) dX9_readPins_114 rfl rfl rfl ?_
          refine mw_iconst (n := 116) (v := 2) dX9_readPins_115 rfl (by decide) ?_
          refine mw_iadd (n := 117) dX9_readPins_116 rfl ?_
          refine mw_iconst (n := 118) (v := 0) dX9_readPins_117 rfl (by decide) ?_
          refine mw_aload_n (n := 119) (q := 1) dX9_readPins_118 rfl rfl rfl ?_
          refine mw_getr (n := 122) (a := 82) (k := 3) cl9 (mkm hg (by decide) (by rfl)) (by decide) rfl rfl fl_X9_13 dX9_readPins_119 rfl ?_
          refine mw_iconst (n := 123) (v := 1) dX9_readPins_122 rfl (by decide) ?_
          refine mw_iaLd (n := 124) (a := 84) (j := 1) (N := 32) (mkm hg (by decide) (by rfl)) (by decide) (by decide) dX9_readPins_123 rfl ?_
          refine mw_iconst (n := 125) (v := 1) dX9_readPins_124 rfl (by decide) ?_
          refine mw_isub (n := 126) dX9_readPins_125 rfl ?_
          refine mw_callV (n := 129) (a := 82) (As := [.int (v2 + (2 : Int32)), .int (0 : Int32), .int ((mgi h 84 1) - (1 : Int32))]) cl9 (mkm hg (by decide) (by rfl)) (t_X9_figure hg (v2 + (2 : Int32)) (0 : Int32) ((mgi h 84 1) - (1 : Int32)) h) (by decide) ok_X9_figure rfl rfl lk_X9_89 im_X9_figure se_X9_figure dX9_readPins_126 rfl rfl (Nat.le_of_ble_eq_true rfl) (fun q8 _ => ?_)
          show mw g l _ _ _ 129 _ [.int q8] h _
          refine mw_istore (n := 131) dX9_readPins_129 rfl (by decide) rfl ?_
          refine mw_iload (n := 133) (q := 0) dX9_readPins_131 rfl rfl ?_
          refine mw_bipush (n := 135) (v := -9) dX9_readPins_133 rfl (by decide) ?_
          refine mw_icmp_eq (n := 138) (t := 161) dX9_readPins_135 rfl (by decide) Iff.rfl (fun c9 => ?_) (fun c9 => ?_)
          · refine mw_iload_n (n := 162) (q := 3) dX9_readPins_161 rfl rfl rfl ?_
            refine mw_iconst (n := 163) (v := 2) dX9_readPins_162 rfl (by decide) ?_
            refine mw_iadd (n := 164) dX9_readPins_163 rfl ?_
            exact mw_iret dX9_readPins_164 rfl rfl
          · refine mw_aload_n (n := 139) (q := 2) dX9_readPins_138 rfl rfl rfl ?_
            refine mw_getr (n := 142) (a := 82) (k := 3) cl9 (mkm hg (by decide) (by rfl)) (by decide) rfl rfl fl_X9_13 dX9_readPins_139 rfl ?_
            refine mw_bipush (n := 144) (v := 11) dX9_readPins_142 rfl (by decide) ?_
            refine mw_aload_n (n := 145) (q := 2) dX9_readPins_144 rfl rfl rfl ?_
            refine mw_getr (n := 148) (a := 82) (k := 3) cl9 (mkm hg (by decide) (by rfl)) (by decide) rfl rfl fl_X9_13 dX9_readPins_145 rfl ?_
            refine mw_iconst (n := 149) (v := 1) dX9_readPins_148 rfl (by decide) ?_
            refine mw_iaLd (n := 150) (a := 84) (j := 1) (N := 32) (mkm hg (by decide) (by rfl)) (by decide) (by decide) dX9_readPins_149 rfl ?_
            refine mw_iload (n := 152) (q := 1) dX9_readPins_150 rfl rfl ?_
            refine mw_imul (n := 153) dX9_readPins_152 rfl ?_
            refine mw_iadd (n := 154) dX9_readPins_153 rfl ?_
            refine mw_iload (n := 156) (q := 0) dX9_readPins_154 rfl rfl ?_
            refine mw_iadd (n := 157) dX9_readPins_156 rfl ?_
            refine mw_iald (n := 158) (a := 84) (N := 32) (mkm hg (by decide) (by rfl)) dX9_readPins_157 rfl ?_
            refine mw_if_le (n := 161) (t := 165) dX9_readPins_158 rfl (by decide) Iff.rfl (fun c10 => ?_) (fun c10 => ?_)
            · refine mw_aload_n (n := 166) (q := 2) dX9_readPins_165 rfl rfl rfl ?_
              refine mw_getr (n := 169) (a := 82) (k := 3) cl9 (mkm hg (by decide) (by rfl)) (by decide) rfl rfl fl_X9_13 dX9_readPins_166 rfl ?_
              refine mw_bipush (n := 171) (v := 11) dX9_readPins_169 rfl (by decide) ?_
              refine mw_aload_n (n := 172) (q := 2) dX9_readPins_171 rfl rfl rfl ?_
              refine mw_getr (n := 175) (a := 82) (k := 3) cl9 (mkm hg (by decide) (by rfl)) (by decide) rfl rfl fl_X9_13 dX9_readPins_172 rfl ?_
              refine mw_iconst (n := 176) (v := 1) dX9_readPins_175 rfl (by decide) ?_
              refine mw_iaLd (n := 177) (a := 84) (j := 1) (N := 32) (mkm hg (by decide) (by rfl)) (by decide) (by decide) dX9_readPins_176 rfl ?_
              refine mw_iload (n := 179) (q := 1) dX9_readPins_177 rfl rfl ?_
              refine mw_imul (n := 180) dX9_readPins_179 rfl ?_
              refine mw_iadd (n := 181) dX9_readPins_180 rfl ?_
              refine mw_iload (n := 183) (q := 0) dX9_readPins_181 rfl rfl ?_
              refine mw_iadd (n := 184) dX9_readPins_183 rfl ?_
              refine mw_iload_n (n := 185) (q := 4) dX9_readPins_184 rfl rfl rfl ?_
              refine mw_cutJ (pc' := 193) (lv' := [(6, .int q8), (5, .int q4), (0, .ref (mad g 82)), (2, .int v2), (3, .int v3), (4, .int v4)]) (st' := [.int (if v3 = 0 then (2 : Int32) else (1 : Int32)), .int (((11 : Int32) + ((mgi h 84 1) * q4)) + q8), .ref (mad g 84)]) (fun J => ?_) ?_
              · refine mw_if_eq_m (n := 188) (t := 192) dX9_readPins_185 rfl (by decide) (fun c11 => ?_) (fun c11 => ?_)
                · refine mw_iconst (n := 193) (v := 2) dX9_readPins_192 rfl (by decide) ?_
                  exact mw_topeq (if_pos c11).symm J
                · refine mw_iconst (n := 189) (v := 1) dX9_readPins_188 rfl (by decide) ?_
                  refine mw_goto (n := 193) dX9_readPins_189 (by decide) ?_
                  exact mw_topeq (if_neg c11).symm J
              refine mw_iast (n := 194) (a := 84) (N := 32) (mkm hg (by decide) (by rfl)) dX9_readPins_193 rfl (mw_leth (fun h12 => ?_))
              refine mw_iinc (n := 197) (q := 3) (v := (v2 + (3 : Int32))) dX9_readPins_194 rfl rfl rfl (by decide) rfl ?_
              refine mw_goto (n := 2) dX9_readPins_197 (by decide) ?_
              refine mw_sub [3, 0] rfl ?_
              exact hself2 (v2 + (3 : Int32)) h12
            · refine mw_iload_n (n := 162) (q := 3) dX9_readPins_161 rfl rfl rfl ?_
              refine mw_iconst (n := 163) (v := 2) dX9_readPins_162 rfl (by decide) ?_
              refine mw_iadd (n := 164) dX9_readPins_163 rfl ?_
              exact mw_iret dX9_readPins_164 rfl rfl
        · refine mw_iload_n (n := 110) (q := 2) dX9_readPins_109 rfl rfl rfl ?_
          refine mw_iconst (n := 111) (v := 1) dX9_readPins_110 rfl (by decide) ?_
          refine mw_iadd (n := 112) dX9_readPins_111 rfl ?_
          exact mw_iret dX9_readPins_112 rfl rfl
    · refine mw_iload_n (n := 71) (q := 1) dX9_readPins_70 rfl rfl rfl ?_
      exact mw_iret dX9_readPins_71 rfl rfl
noncomputable def x_X9_readPins_2 (N : Nat) (f : Nat) : Int32 → mH → Option (Int32 × mH) :=
  Nat.rec (motive := fun _ => Int32 → mH → Option (Int32 × mH)) (fun _ _ => none) (fun _ self2 => fun v2 h => 
    if (mgi h 82 2) ≤ v2 then
      some ((-9 : Int32), h)
    else
      mck v2 40 <|
      mlet (if ¬ (mgi h 83 (v2).toNatClampNeg) = (111 : Int32) then (0 : Int32) else (1 : Int32)) fun u3 =>
      (x_X9_pinned N 84 h).bind fun q4 =>
      if ¬ u3 = 0 then
        x_X9_readPins_51 N self2 v2 u3 q4 h
      else
        mck v2 40 <|
        if ¬ (mgi h 83 (v2).toNatClampNeg) = (120 : Int32) then
          some (v2, h)
        else
          x_X9_readPins_51 N self2 v2 u3 q4 h) f
theorem x_X9_readPins_2_0 (N : Nat) (v2 : Int32) (h : mH) : x_X9_readPins_2 N 0 v2 h = none := rfl
theorem x_X9_readPins_2_s (N : Nat) (f : Nat) (v2 : Int32) (h : mH) : x_X9_readPins_2 N (f + 1) v2 h = (
    if (mgi h 82 2) ≤ v2 then
      some ((-9 : Int32), h)
    else
      mck v2 40 <|
      mlet (if ¬ (mgi h 83 (v2).toNatClampNeg) = (111 : Int32) then (0 : Int32) else (1 : Int32)) fun u3 =>
      (x_X9_pinned N 84 h).bind fun q4 =>
      if ¬ u3 = 0 then
        x_X9_readPins_51 N (x_X9_readPins_2 N f) v2 u3 q4 h
      else
        mck v2 40 <|
        if ¬ (mgi h 83 (v2).toNatClampNeg) = (120 : Int32) then
          some (v2, h)
        else
          x_X9_readPins_51 N (x_X9_readPins_2 N f) v2 u3 q4 h) := rfl
set_option maxRecDepth 20000 in
set_option maxHeartbeats 4000000 in
theorem b_X9_readPins_2 {g : mG} {l : Launch} (hg : mnn g = 101) (N : Nat) (f : Nat) : ∀ (v2 : Int32) (h : mH), mw g l 2 mX9_readPins (fun r : Int32 × mH => (some (Value.int r.1), r.2)) 2 [(0, .ref (mad g 82)), (2, .int v2)] [] h (x_X9_readPins_2 N f v2 h) := by
  induction f with
  | zero => intros; exact mw_none
  | succ f hself2 =>
    intro v2 h
    refine mw_eq (x_X9_readPins_2_s N f v2 h) ?_
    generalize x_X9_readPins_2 N f = self2 at hself2 ⊢
    refine mw_iload_n (n := 3) (q := 1) dX9_readPins_2 rfl rfl rfl ?_
    refine mw_aload_n (n := 4) (q := 0) dX9_readPins_3 rfl rfl rfl ?_
    refine mw_geti (n := 7) (a := 82) (k := 2) cl9 (mkm hg (by decide) (by rfl)) (by decide) rfl rfl fl_X9_83 dX9_readPins_4 rfl ?_
    refine mw_icmp_ge (n := 10) (t := 200) dX9_readPins_7 rfl (by decide) Iff.rfl (fun c1 => ?_) (fun c1 => ?_)
    · refine mw_bipush (n := 202) (v := -9) dX9_readPins_200 rfl (by decide) ?_
      exact mw_iret dX9_readPins_202 rfl rfl
    · refine mw_aload_n (n := 11) (q := 0) dX9_readPins_10 rfl rfl rfl ?_
      refine mw_getr (n := 14) (a := 82) (k := 1) cl9 (mkm hg (by decide) (by rfl)) (by decide) rfl rfl fl_X9_7 dX9_readPins_11 rfl ?_
      refine mw_iload_n (n := 15) (q := 1) dX9_readPins_14 rfl rfl rfl ?_
      refine mw_iald (n := 16) (a := 83) (N := 40) (mkm hg (by decide) (by rfl)) dX9_readPins_15 rfl ?_
      refine mw_bipush (n := 18) (v := 111) dX9_readPins_16 rfl (by decide) ?_
      refine mw_cutJ (pc' := 26) (lv' := [(0, .ref (mad g 82)), (2, .int v2)]) (st' := [.int (if ¬ (mgi h 83 (v2).toNatClampNeg) = (111 : Int32) then (0 : Int32) else (1 : Int32))]) (fun J => ?_) ?_
      · refine mw_icmp_ne_m (n := 21) (t := 25) dX9_readPins_18 rfl (by decide) (fun c2 => ?_) (fun c2 => ?_)
        · refine mw_iconst (n := 26) (v := 0) dX9_readPins_25 rfl (by decide) ?_
          exact mw_topeq (if_pos c2).symm J
        · refine mw_iconst (n := 22) (v := 1) dX9_readPins_21 rfl (by decide) ?_
          refine mw_goto (n := 26) dX9_readPins_22 (by decide) ?_
          exact mw_topeq (if_neg c2).symm J
      refine mw_letI (fun u3 => ?_)
      refine mw_istore_n (n := 27) dX9_readPins_26 rfl rfl (by decide) rfl ?_
      refine mw_aload_n (n := 28) (q := 1) dX9_readPins_27 rfl rfl rfl ?_
      refine mw_getr (n := 31) (a := 82) (k := 3) cl9 (mkm hg (by decide) (by rfl)) (by decide) rfl rfl fl_X9_13 dX9_readPins_28 rfl ?_
      refine mw_callS (n := 34) (As := [.ref (mad g 84)]) (t_X9_pinned hg N 84 (mkm hg (by decide) (by rfl)) h) (by decide) ok_X9_pinned rfl lk_X9_86 sm_X9_pinned dX9_readPins_31 rfl rfl (Nat.le_of_ble_eq_true rfl) (fun q4 _ => ?_)
      show mw g l _ _ _ 34 _ [.int q4] h _
      refine mw_istore (n := 36) dX9_readPins_34 rfl (by decide) rfl ?_
      refine mw_iload_n (n := 37) (q := 1) dX9_readPins_36 rfl rfl rfl ?_
      refine mw_if_ne (n := 40) (t := 51) dX9_readPins_37 rfl (by decide) Iff.rfl (fun c5 => ?_) (fun c5 => ?_)
      · refine mw_sub [2, 3, 1, 0] rfl ?_
        exact b_X9_readPins_51 hg N v2 u3 q4 self2 hself2 h
      · refine mw_aload_n (n := 41) (q := 2) dX9_readPins_40 rfl rfl rfl ?_
        refine mw_getr (n := 44) (a := 82) (k := 1) cl9 (mkm hg (by decide) (by rfl)) (by decide) rfl rfl fl_X9_7 dX9_readPins_41 rfl ?_
        refine mw_iload_n (n := 45) (q := 3) dX9_readPins_44 rfl rfl rfl ?_
        refine mw_iald (n := 46) (a := 83) (N := 40) (mkm hg (by decide) (by rfl)) dX9_readPins_45 rfl ?_
        refine mw_bipush (n := 48) (v := 120) dX9_readPins_46 rfl (by decide) ?_
        refine mw_icmp_ne (n := 51) (t := 70) dX9_readPins_48 rfl (by decide) Iff.rfl (fun c6 => ?_) (fun c6 => ?_)
        · refine mw_iload_n (n := 71) (q := 3) dX9_readPins_70 rfl rfl rfl ?_
          exact mw_iret dX9_readPins_71 rfl rfl
        · refine mw_sub [2, 3, 1, 0] rfl ?_
          exact b_X9_readPins_51 hg N v2 u3 q4 self2 hself2 h
noncomputable def x_X9_readPins (N : Nat) (p0 : Int32) (h : mH) : Option (Int32 × mH) :=
  x_X9_readPins_2 N N p0 h
set_option maxRecDepth 20000 in
set_option maxHeartbeats 4000000 in
theorem t_X9_readPins {g : mG} {l : Launch} (hg : mnn g = 101) (N : Nat) (p0 : Int32) (h : mH) : mf g l 2 mX9_readPins (fun r : Int32 × mH => (some (Value.int r.1), r.2)) [.ref (mad g 82), .int p0] h (x_X9_readPins N p0 h) := by
  refine mf_of (by decide) (Nat.le_of_ble_eq_true rfl) ?_
  show mw g l 2 mX9_readPins (fun r : Int32 × mH => (some (Value.int r.1), r.2)) 0 [(0, .ref (mad g 82)), (1, .int p0)] [] h _
  unfold x_X9_readPins
  refine mw_iload_n (n := 1) (q := 1) dX9_readPins_0 rfl rfl rfl ?_
  refine mw_istore_n (n := 2) dX9_readPins_1 rfl rfl (by decide) rfl ?_
  refine mw_sub [1, 0] rfl ?_
  exact b_X9_readPins_2 hg N N p0 h
noncomputable def x_X9_readSheet_89 (N : Nat) (v1 : Int32) (v2 : Int32) (f : Nat) : Int32 → mH → Option (Int32 × mH) :=
  Nat.rec (motive := fun _ => Int32 → mH → Option (Int32 × mH)) (fun _ _ => none) (fun _ self89 => fun v3 h => 
    if (v1 + v2) ≤ v3 then
      (x_X9_readPins N (((3 : Int32) + v1) + v2) h).bind fun q2 =>
      some (q2.1, q2.2)
    else
      (x_X9_figure ((3 : Int32) + v3) (0 : Int32) (if v1 ≤ v3 then v1 else v2) h).bind fun q4 =>
      if ¬ q4 = (-9 : Int32) then
        mck (if v1 ≤ v3 then (((6 : Int32) + v3) - v1) else ((2 : Int32) + v3)) 32 <|
        mlet (msi h 84 ((if v1 ≤ v3 then (((6 : Int32) + v3) - v1) else ((2 : Int32) + v3))).toNatClampNeg q4) fun h7 =>
        self89 (v3 + (1 : Int32)) h7
      else
        some (((3 : Int32) + v3), h)) f
theorem x_X9_readSheet_89_0 (N : Nat) (v1 : Int32) (v2 : Int32) (v3 : Int32) (h : mH) : x_X9_readSheet_89 N v1 v2 0 v3 h = none := rfl
theorem x_X9_readSheet_89_s (N : Nat) (v1 : Int32) (v2 : Int32) (f : Nat) (v3 : Int32) (h : mH) : x_X9_readSheet_89 N v1 v2 (f + 1) v3 h = (
    if (v1 + v2) ≤ v3 then
      (x_X9_readPins N (((3 : Int32) + v1) + v2) h).bind fun q2 =>
      some (q2.1, q2.2)
    else
      (x_X9_figure ((3 : Int32) + v3) (0 : Int32) (if v1 ≤ v3 then v1 else v2) h).bind fun q4 =>
      if ¬ q4 = (-9 : Int32) then
        mck (if v1 ≤ v3 then (((6 : Int32) + v3) - v1) else ((2 : Int32) + v3)) 32 <|
        mlet (msi h 84 ((if v1 ≤ v3 then (((6 : Int32) + v3) - v1) else ((2 : Int32) + v3))).toNatClampNeg q4) fun h7 =>
        (x_X9_readSheet_89 N v1 v2 f) (v3 + (1 : Int32)) h7
      else
        some (((3 : Int32) + v3), h)) := rfl
set_option maxRecDepth 20000 in
set_option maxHeartbeats 4000000 in
theorem b_X9_readSheet_89 {g : mG} {l : Launch} (hg : mnn g = 101) (N : Nat) (v1 : Int32) (v2 : Int32) (f : Nat) : ∀ (v3 : Int32) (h : mH), mw g l 3 mX9_readSheet (fun r : Int32 × mH => (some (Value.int r.1), r.2)) 89 [(0, .ref (mad g 82)), (1, .int v1), (2, .int v2), (3, .int v3)] [] h (x_X9_readSheet_89 N v1 v2 f v3 h) := by
  induction f with
  | zero => intros; exact mw_none
  | succ f hself89 =>
    intro v3 h
    refine mw_eq (x_X9_readSheet_89_s N v1 v2 f v3 h) ?_
    generalize x_X9_readSheet_89 N v1 v2 f = self89 at hself89 ⊢
    refine mw_iload_n (n := 90) (q := 3) dX9_readSheet_89 rfl rfl rfl ?_
    refine mw_iload_n (n := 91) (q := 1) dX9_readSheet_90 rfl rfl rfl ?_
    refine mw_iload_n (n := 92) (q := 2) dX9_readSheet_91 rfl rfl rfl ?_
    refine mw_iadd (n := 93) dX9_readSheet_92 rfl ?_
    refine mw_icmp_ge (n := 96) (t := 157) dX9_readSheet_93 rfl (by decide) Iff.rfl (fun c1 => ?_) (fun c1 => ?_)
    · refine mw_aload_n (n := 158) (q := 0) dX9_readSheet_157 rfl rfl rfl ?_
      refine mw_iconst (n := 159) (v := 3) dX9_readSheet_158 rfl (by decide) ?_
      refine mw_iload_n (n := 160) (q := 1) dX9_readSheet_159 rfl rfl rfl ?_
      refine mw_iadd (n := 161) dX9_readSheet_160 rfl ?_
      refine mw_iload_n (n := 162) (q := 2) dX9_readSheet_161 rfl rfl rfl ?_
      refine mw_iadd (n := 163) dX9_readSheet_162 rfl ?_
      refine mw_callV (n := 166) (a := 82) (As := [.int (((3 : Int32) + v1) + v2)]) cl9 (mkm hg (by decide) (by rfl)) (t_X9_readPins hg N (((3 : Int32) + v1) + v2) h) (by decide) ok_X9_readPins rfl rfl lk_X9_97 im_X9_readPins se_X9_readPins dX9_readSheet_163 rfl rfl (Nat.le_of_ble_eq_true rfl) (fun q2 _ => ?_)
      show mw g l _ _ _ 166 _ [.int q2.1] q2.2 _
      exact mw_iret dX9_readSheet_166 rfl rfl
    · refine mw_aload_n (n := 97) (q := 0) dX9_readSheet_96 rfl rfl rfl ?_
      refine mw_iconst (n := 98) (v := 3) dX9_readSheet_97 rfl (by decide) ?_
      refine mw_iload_n (n := 99) (q := 3) dX9_readSheet_98 rfl rfl rfl ?_
      refine mw_iadd (n := 100) dX9_readSheet_99 rfl ?_
      refine mw_iconst (n := 101) (v := 0) dX9_readSheet_100 rfl (by decide) ?_
      refine mw_iload_n (n := 102) (q := 3) dX9_readSheet_101 rfl rfl rfl ?_
      refine mw_iload_n (n := 103) (q := 1) dX9_readSheet_102 rfl rfl rfl ?_
      refine mw_cutJ (pc' := 111) (lv' := [(0, .ref (mad g 82)), (1, .int v1), (2, .int v2), (3, .int v3)]) (st' := [.int (if v1 ≤ v3 then v1 else v2), .int (0 : Int32), .int ((3 : Int32) + v3), .ref (mad g 82)]) (fun J => ?_) ?_
      · refine mw_icmp_ge_m (n := 106) (t := 110) dX9_readSheet_103 rfl (by decide) (fun c3 => ?_) (fun c3 => ?_)
        · refine mw_iload_n (n := 111) (q := 1) dX9_readSheet_110 rfl rfl rfl ?_
          exact mw_topeq (if_pos c3).symm J
        · refine mw_iload_n (n := 107) (q := 2) dX9_readSheet_106 rfl rfl rfl ?_
          refine mw_goto (n := 111) dX9_readSheet_107 (by decide) ?_
          exact mw_topeq (if_neg c3).symm J
      refine mw_callV (n := 114) (a := 82) (As := [.int ((3 : Int32) + v3), .int (0 : Int32), .int (if v1 ≤ v3 then v1 else v2)]) cl9 (mkm hg (by decide) (by rfl)) (t_X9_figure hg ((3 : Int32) + v3) (0 : Int32) (if v1 ≤ v3 then v1 else v2) h) (by decide) ok_X9_figure rfl rfl lk_X9_89 im_X9_figure se_X9_figure dX9_readSheet_111 rfl rfl (Nat.le_of_ble_eq_true rfl) (fun q4 _ => ?_)
      show mw g l _ _ _ 114 _ [.int q4] h _
      refine mw_istore (n := 116) dX9_readSheet_114 rfl (by decide) rfl ?_
      refine mw_iload (n := 118) (q := 0) dX9_readSheet_116 rfl rfl ?_
      refine mw_bipush (n := 120) (v := -9) dX9_readSheet_118 rfl (by decide) ?_
      refine mw_icmp_ne (n := 123) (t := 127) dX9_readSheet_120 rfl (by decide) Iff.rfl (fun c5 => ?_) (fun c5 => ?_)
      · refine mw_aload_n (n := 128) (q := 1) dX9_readSheet_127 rfl rfl rfl ?_
        refine mw_getr (n := 131) (a := 82) (k := 3) cl9 (mkm hg (by decide) (by rfl)) (by decide) rfl rfl fl_X9_13 dX9_readSheet_128 rfl ?_
        refine mw_iload_n (n := 132) (q := 4) dX9_readSheet_131 rfl rfl rfl ?_
        refine mw_iload_n (n := 133) (q := 2) dX9_readSheet_132 rfl rfl rfl ?_
        refine mw_cutJ (pc' := 148) (lv' := [(4, .int q4), (0, .ref (mad g 82)), (1, .int v1), (2, .int v2), (3, .int v3)]) (st' := [.int (if v1 ≤ v3 then (((6 : Int32) + v3) - v1) else ((2 : Int32) + v3)), .ref (mad g 84)]) (fun J => ?_) ?_
        · refine mw_icmp_ge_m (n := 136) (t := 142) dX9_readSheet_133 rfl (by decide) (fun c6 => ?_) (fun c6 => ?_)
          · refine mw_bipush (n := 144) (v := 6) dX9_readSheet_142 rfl (by decide) ?_
            refine mw_iload_n (n := 145) (q := 4) dX9_readSheet_144 rfl rfl rfl ?_
            refine mw_iadd (n := 146) dX9_readSheet_145 rfl ?_
            refine mw_iload_n (n := 147) (q := 2) dX9_readSheet_146 rfl rfl rfl ?_
            refine mw_isub (n := 148) dX9_readSheet_147 rfl ?_
            exact mw_topeq (if_pos c6).symm J
          · refine mw_iconst (n := 137) (v := 2) dX9_readSheet_136 rfl (by decide) ?_
            refine mw_iload_n (n := 138) (q := 4) dX9_readSheet_137 rfl rfl rfl ?_
            refine mw_iadd (n := 139) dX9_readSheet_138 rfl ?_
            refine mw_goto (n := 148) dX9_readSheet_139 (by decide) ?_
            exact mw_topeq (if_neg c6).symm J
        refine mw_iload (n := 150) (q := 0) dX9_readSheet_148 rfl rfl ?_
        refine mw_iast (n := 151) (a := 84) (N := 32) (mkm hg (by decide) (by rfl)) dX9_readSheet_150 rfl (mw_leth (fun h7 => ?_))
        refine mw_iinc (n := 154) (q := 4) (v := (v3 + (1 : Int32))) dX9_readSheet_151 rfl rfl rfl (by decide) rfl ?_
        refine mw_goto (n := 89) dX9_readSheet_154 (by decide) ?_
        refine mw_sub [2, 3, 4, 0] rfl ?_
        exact hself89 (v3 + (1 : Int32)) h7
      · refine mw_iconst (n := 124) (v := 3) dX9_readSheet_123 rfl (by decide) ?_
        refine mw_iload_n (n := 125) (q := 4) dX9_readSheet_124 rfl rfl rfl ?_
        refine mw_iadd (n := 126) dX9_readSheet_125 rfl ?_
        exact mw_iret dX9_readSheet_126 rfl rfl
noncomputable def x_X9_readSheet_2 (N : Nat) (f : Nat) : Int32 → mH → Option (Int32 × mH) :=
  Nat.rec (motive := fun _ => Int32 → mH → Option (Int32 × mH)) (fun _ _ => none) (fun _ self2 => fun v1 h => 
    if (32 : Int32) ≤ v1 then
      if (mgi h 82 2) = 0 then
        some ((0 : Int32), h)
      else
        if (mgi h 83 0) = (80 : Int32) then
          (x_X9_figure (1 : Int32) (1 : Int32) (4 : Int32) h).bind fun q4 =>
          if ¬ q4 = (-9 : Int32) then
            (x_X9_figure (2 : Int32) (1 : Int32) (5 : Int32) h).bind fun q6 =>
            if ¬ q6 = (-9 : Int32) then
              mlet (msi h 84 0 q4) fun h8 =>
              mlet (msi h8 84 1 q6) fun h9 =>
              x_X9_readSheet_89 N q4 q6 N (0 : Int32) h9
            else
              some ((2 : Int32), h)
          else
            some ((1 : Int32), h)
        else
          some ((0 : Int32), h)
    else
      mck v1 32 <|
      mlet (msi h 84 (v1).toNatClampNeg (0 : Int32)) fun h10 =>
      self2 (v1 + (1 : Int32)) h10) f
theorem x_X9_readSheet_2_0 (N : Nat) (v1 : Int32) (h : mH) : x_X9_readSheet_2 N 0 v1 h = none := rfl
theorem x_X9_readSheet_2_s (N : Nat) (f : Nat) (v1 : Int32) (h : mH) : x_X9_readSheet_2 N (f + 1) v1 h = (
    if (32 : Int32) ≤ v1 then
      if (mgi h 82 2) = 0 then
        some ((0 : Int32), h)
      else
        if (mgi h 83 0) = (80 : Int32) then
          (x_X9_figure (1 : Int32) (1 : Int32) (4 : Int32) h).bind fun q4 =>
          if ¬ q4 = (-9 : Int32) then
            (x_X9_figure (2 : Int32) (1 : Int32) (5 : Int32) h).bind fun q6 =>
            if ¬ q6 = (-9 : Int32) then
              mlet (msi h 84 0 q4) fun h8 =>
              mlet (msi h8 84 1 q6) fun h9 =>
              x_X9_readSheet_89 N q4 q6 N (0 : Int32) h9
            else
              some ((2 : Int32), h)
          else
            some ((1 : Int32), h)
        else
          some ((0 : Int32), h)
    else
      mck v1 32 <|
      mlet (msi h 84 (v1).toNatClampNeg (0 : Int32)) fun h10 =>
      (x_X9_readSheet_2 N f) (v1 + (1 : Int32)) h10) := rfl
set_option maxRecDepth 20000 in
set_option maxHeartbeats 4000000 in
theorem b_X9_readSheet_2 {g : mG} {l : Launch} (hg : mnn g = 101) (N : Nat) (f : Nat) : ∀ (v1 : Int32) (h : mH), mw g l 3 mX9_readSheet (fun r : Int32 × mH => (some (Value.int r.1), r.2)) 2 [(0, .ref (mad g 82)), (1, .int v1)] [] h (x_X9_readSheet_2 N f v1 h) := by
  induction f with
  | zero => intros; exact mw_none
  | succ f hself2 =>
    intro v1 h
    refine mw_eq (x_X9_readSheet_2_s N f v1 h) ?_
    generalize x_X9_readSheet_2 N f = self2 at hself2 ⊢
    refine mw_iload_n (n := 3) (q := 1) dX9_readSheet_2 rfl rfl rfl ?_
    refine mw_bipush (n := 5) (v := 32) dX9_readSheet_3 rfl (by decide) ?_
    refine mw_icmp_ge (n := 8) (t := 21) dX9_readSheet_5 rfl (by decide) Iff.rfl (fun c1 => ?_) (fun c1 => ?_)
    · refine mw_aload_n (n := 22) (q := 0) dX9_readSheet_21 rfl rfl rfl ?_
      refine mw_geti (n := 25) (a := 82) (k := 2) cl9 (mkm hg (by decide) (by rfl)) (by decide) rfl rfl fl_X9_83 dX9_readSheet_22 rfl ?_
      refine mw_if_eq (n := 28) (t := 39) dX9_readSheet_25 rfl (by decide) Iff.rfl (fun c2 => ?_) (fun c2 => ?_)
      · refine mw_iconst (n := 40) (v := 0) dX9_readSheet_39 rfl (by decide) ?_
        exact mw_iret dX9_readSheet_40 rfl rfl
      · refine mw_aload_n (n := 29) (q := 0) dX9_readSheet_28 rfl rfl rfl ?_
        refine mw_getr (n := 32) (a := 82) (k := 1) cl9 (mkm hg (by decide) (by rfl)) (by decide) rfl rfl fl_X9_7 dX9_readSheet_29 rfl ?_
        refine mw_iconst (n := 33) (v := 0) dX9_readSheet_32 rfl (by decide) ?_
        refine mw_iaLd (n := 34) (a := 83) (j := 0) (N := 40) (mkm hg (by decide) (by rfl)) (by decide) (by decide) dX9_readSheet_33 rfl ?_
        refine mw_bipush (n := 36) (v := 80) dX9_readSheet_34 rfl (by decide) ?_
        refine mw_icmp_eq (n := 39) (t := 41) dX9_readSheet_36 rfl (by decide) Iff.rfl (fun c3 => ?_) (fun c3 => ?_)
        · refine mw_aload_n (n := 42) (q := 0) dX9_readSheet_41 rfl rfl rfl ?_
          refine mw_iconst (n := 43) (v := 1) dX9_readSheet_42 rfl (by decide) ?_
          refine mw_iconst (n := 44) (v := 1) dX9_readSheet_43 rfl (by decide) ?_
          refine mw_iconst (n := 45) (v := 4) dX9_readSheet_44 rfl (by decide) ?_
          refine mw_callV (n := 48) (a := 82) (As := [.int (1 : Int32), .int (1 : Int32), .int (4 : Int32)]) cl9 (mkm hg (by decide) (by rfl)) (t_X9_figure hg (1 : Int32) (1 : Int32) (4 : Int32) h) (by decide) ok_X9_figure rfl rfl lk_X9_89 im_X9_figure se_X9_figure dX9_readSheet_45 rfl rfl (Nat.le_of_ble_eq_true rfl) (fun q4 _ => ?_)
          show mw g l _ _ _ 48 _ [.int q4] h _
          refine mw_istore_n (n := 49) dX9_readSheet_48 rfl rfl (by decide) rfl ?_
          refine mw_iload_n (n := 50) (q := 0) dX9_readSheet_49 rfl rfl rfl ?_
          refine mw_bipush (n := 52) (v := -9) dX9_readSheet_50 rfl (by decide) ?_
          refine mw_icmp_ne (n := 55) (t := 57) dX9_readSheet_52 rfl (by decide) Iff.rfl (fun c5 => ?_) (fun c5 => ?_)
          · refine mw_aload_n (n := 58) (q := 1) dX9_readSheet_57 rfl rfl rfl ?_
            refine mw_iconst (n := 59) (v := 2) dX9_readSheet_58 rfl (by decide) ?_
            refine mw_iconst (n := 60) (v := 1) dX9_readSheet_59 rfl (by decide) ?_
            refine mw_iconst (n := 61) (v := 5) dX9_readSheet_60 rfl (by decide) ?_
            refine mw_callV (n := 64) (a := 82) (As := [.int (2 : Int32), .int (1 : Int32), .int (5 : Int32)]) cl9 (mkm hg (by decide) (by rfl)) (t_X9_figure hg (2 : Int32) (1 : Int32) (5 : Int32) h) (by decide) ok_X9_figure rfl rfl lk_X9_89 im_X9_figure se_X9_figure dX9_readSheet_61 rfl rfl (Nat.le_of_ble_eq_true rfl) (fun q6 _ => ?_)
            show mw g l _ _ _ 64 _ [.int q6] h _
            refine mw_istore_n (n := 65) dX9_readSheet_64 rfl rfl (by decide) rfl ?_
            refine mw_iload_n (n := 66) (q := 0) dX9_readSheet_65 rfl rfl rfl ?_
            refine mw_bipush (n := 68) (v := -9) dX9_readSheet_66 rfl (by decide) ?_
            refine mw_icmp_ne (n := 71) (t := 73) dX9_readSheet_68 rfl (by decide) Iff.rfl (fun c7 => ?_) (fun c7 => ?_)
            · refine mw_aload_n (n := 74) (q := 2) dX9_readSheet_73 rfl rfl rfl ?_
              refine mw_getr (n := 77) (a := 82) (k := 3) cl9 (mkm hg (by decide) (by rfl)) (by decide) rfl rfl fl_X9_13 dX9_readSheet_74 rfl ?_
              refine mw_iconst (n := 78) (v := 0) dX9_readSheet_77 rfl (by decide) ?_
              refine mw_iload_n (n := 79) (q := 1) dX9_readSheet_78 rfl rfl rfl ?_
              refine mw_iaSt (n := 80) (a := 84) (j := 0) (N := 32) (mkm hg (by decide) (by rfl)) (by decide) (by decide) dX9_readSheet_79 rfl (mw_leth (fun h8 => ?_))
              refine mw_aload_n (n := 81) (q := 2) dX9_readSheet_80 rfl rfl rfl ?_
              refine mw_getr (n := 84) (a := 82) (k := 3) cl9 (mkm hg (by decide) (by rfl)) (by decide) rfl rfl fl_X9_13 dX9_readSheet_81 rfl ?_
              refine mw_iconst (n := 85) (v := 1) dX9_readSheet_84 rfl (by decide) ?_
              refine mw_iload_n (n := 86) (q := 0) dX9_readSheet_85 rfl rfl rfl ?_
              refine mw_iaSt (n := 87) (a := 84) (j := 1) (N := 32) (mkm hg (by decide) (by rfl)) (by decide) (by decide) dX9_readSheet_86 rfl (mw_leth (fun h9 => ?_))
              refine mw_iconst (n := 88) (v := 0) dX9_readSheet_87 rfl (by decide) ?_
              refine mw_istore_n (n := 89) dX9_readSheet_88 rfl rfl (by decide) rfl ?_
              refine mw_sub [3, 2, 1, 0] rfl ?_
              exact b_X9_readSheet_89 hg N q4 q6 N (0 : Int32) h9
            · refine mw_iconst (n := 72) (v := 2) dX9_readSheet_71 rfl (by decide) ?_
              exact mw_iret dX9_readSheet_72 rfl rfl
          · refine mw_iconst (n := 56) (v := 1) dX9_readSheet_55 rfl (by decide) ?_
            exact mw_iret dX9_readSheet_56 rfl rfl
        · refine mw_iconst (n := 40) (v := 0) dX9_readSheet_39 rfl (by decide) ?_
          exact mw_iret dX9_readSheet_40 rfl rfl
    · refine mw_aload_n (n := 9) (q := 0) dX9_readSheet_8 rfl rfl rfl ?_
      refine mw_getr (n := 12) (a := 82) (k := 3) cl9 (mkm hg (by decide) (by rfl)) (by decide) rfl rfl fl_X9_13 dX9_readSheet_9 rfl ?_
      refine mw_iload_n (n := 13) (q := 1) dX9_readSheet_12 rfl rfl rfl ?_
      refine mw_iconst (n := 14) (v := 0) dX9_readSheet_13 rfl (by decide) ?_
      refine mw_iast (n := 15) (a := 84) (N := 32) (mkm hg (by decide) (by rfl)) dX9_readSheet_14 rfl (mw_leth (fun h10 => ?_))
      refine mw_iinc (n := 18) (q := 1) (v := (v1 + (1 : Int32))) dX9_readSheet_15 rfl rfl rfl (by decide) rfl ?_
      refine mw_goto (n := 2) dX9_readSheet_18 (by decide) ?_
      refine mw_sub [1, 0] rfl ?_
      exact hself2 (v1 + (1 : Int32)) h10
noncomputable def x_X9_readSheet (N : Nat) (h : mH) : Option (Int32 × mH) :=
  x_X9_readSheet_2 N N (0 : Int32) h
set_option maxRecDepth 20000 in
set_option maxHeartbeats 4000000 in
theorem t_X9_readSheet {g : mG} {l : Launch} (hg : mnn g = 101) (N : Nat) (h : mH) : mf g l 3 mX9_readSheet (fun r : Int32 × mH => (some (Value.int r.1), r.2)) [.ref (mad g 82)] h (x_X9_readSheet N h) := by
  refine mf_of (by decide) (Nat.le_of_ble_eq_true rfl) ?_
  show mw g l 3 mX9_readSheet (fun r : Int32 × mH => (some (Value.int r.1), r.2)) 0 [(0, .ref (mad g 82))] [] h _
  unfold x_X9_readSheet
  refine mw_iconst (n := 1) (v := 0) dX9_readSheet_0 rfl (by decide) ?_
  refine mw_istore_n (n := 2) dX9_readSheet_1 rfl rfl (by decide) rfl ?_
  refine mw_sub [1, 0] rfl ?_
  exact b_X9_readSheet_2 hg N N (0 : Int32) h
noncomputable def x_X9_fault (N : Nat) (h : mH) : Option (Int32 × mH) :=
  mlet (msi h 82 0 (0 : Int32)) fun h1 =>
  (x_X9_readSheet N h1).bind fun q2 =>
  some (q2.1, q2.2)
set_option maxRecDepth 20000 in
set_option maxHeartbeats 4000000 in
theorem t_X9_fault {g : mG} {l : Launch} (hg : mnn g = 101) (N : Nat) (h : mH) : mf g l 4 mX9_fault (fun r : Int32 × mH => (some (Value.int r.1), r.2)) [.ref (mad g 82)] h (x_X9_fault N h) := by
  refine mf_of (by decide) (Nat.le_of_ble_eq_true rfl) ?_
  show mw g l 4 mX9_fault (fun r : Int32 × mH => (some (Value.int r.1), r.2)) 0 [(0, .ref (mad g 82))] [] h _
  unfold x_X9_fault
  refine mw_aload_n (n := 1) (q := 0) dX9_fault_0 rfl rfl rfl ?_
  refine mw_iconst (n := 2) (v := 0) dX9_fault_1 rfl (by decide) ?_
  refine mw_puti (n := 5) (a := 82) (k := 0) cl9 ct9 (mkm hg (by decide) (by rfl)) (by decide) rfl rfl rfl rfl fl_X9_65 dX9_fault_2 rfl (mw_leth (fun h1 => ?_))
  refine mw_aload_n (n := 6) (q := 0) dX9_fault_5 rfl rfl rfl ?_
  refine mw_callV (n := 9) (a := 82) (As := []) cl9 (mkm hg (by decide) (by rfl)) (t_X9_readSheet hg N h1) (by decide) ok_X9_readSheet rfl rfl lk_X9_101 im_X9_readSheet se_X9_readSheet dX9_fault_6 rfl rfl (Nat.le_of_ble_eq_true rfl) (fun q2 _ => ?_)
  show mw g l _ _ _ 9 _ [.int q2.1] q2.2 _
  exact mw_iret dX9_fault_9 rfl rfl
noncomputable def x_X9_findMasks_158 (N : Nat) (self15 : Int32 → mH → Option (mH)) (r1 : Nat) (v2 : Int32) (v3 : Int32) (v4 : Int32) (v5 : Int32) (h : mH) : Option (mH) :=
  self15 (v5 + (1 : Int32)) h
set_option maxRecDepth 20000 in
set_option maxHeartbeats 4000000 in
theorem b_X9_findMasks_158 {g : mG} {l : Launch} (hg : mnn g = 101) (N : Nat) (r1 : Nat) (v2 : Int32) (v3 : Int32) (v4 : Int32) (v5 : Int32) (self15 : Int32 → mH → Option (mH)) (hself15 : ∀ (v5 : Int32) (h : mH), mw g l 1 mX9_findMasks (fun r : mH => ((none : Option Value), r)) 15 [(0, .ref (mad g 82)), (1, .ref (mad g r1)), (2, .int v2), (3, .int v3), (4, .int v4), (5, .int v5)] [] h (self15 v5 h)) (hr1 : mkn g r1 132) (h : mH) : mw g l 1 mX9_findMasks (fun r : mH => ((none : Option Value), r)) 158 [(0, .ref (mad g 82)), (1, .ref (mad g r1)), (2, .int v2), (3, .int v3), (4, .int v4), (5, .int v5)] [] h (x_X9_findMasks_158 N self15 r1 v2 v3 v4 v5 h) := by
  unfold x_X9_findMasks_158
  refine mw_iinc (n := 161) (q := 5) (v := (v5 + (1 : Int32))) dX9_findMasks_158 rfl rfl rfl (by decide) rfl ?_
  refine mw_goto (n := 15) dX9_findMasks_161 (by decide) ?_
  refine mw_sub [1, 2, 3, 4, 5, 0] rfl ?_
  exact hself15 (v5 + (1 : Int32)) h
noncomputable def x_X9_findMasks_125 (N : Nat) (self15 : Int32 → mH → Option (mH)) (r1 : Nat) (v2 : Int32) (v3 : Int32) (v4 : Int32) (v5 : Int32) (v6 : Int32) (h : mH) : Option (mH) :=
  if v6 = 0 then
    x_X9_findMasks_158 N self15 r1 v2 v3 v4 v5 h
  else
    mck v2 4 <|
    mck (((10 : Int32) * v2) + (mgi h 93 (v2).toNatClampNeg)) 40 <|
    mlet (msi h 92 ((((10 : Int32) * v2) + (mgi h 93 (v2).toNatClampNeg))).toNatClampNeg v5) fun h2 =>
    mck v2 4 <|
    mck v2 4 <|
    mlet (msi h2 93 (v2).toNatClampNeg ((mgi h2 93 (v2).toNatClampNeg) + (1 : Int32))) fun h3 =>
    x_X9_findMasks_158 N self15 r1 v2 v3 v4 v5 h3
set_option maxRecDepth 20000 in
set_option maxHeartbeats 4000000 in
theorem b_X9_findMasks_125 {g : mG} {l : Launch} (hg : mnn g = 101) (N : Nat) (r1 : Nat) (v2 : Int32) (v3 : Int32) (v4 : Int32) (v5 : Int32) (v6 : Int32) (self15 : Int32 → mH → Option (mH)) (hself15 : ∀ (v5 : Int32) (h : mH), mw g l 1 mX9_findMasks (fun r : mH => ((none : Option Value), r)) 15 [(0, .ref (mad g 82)), (1, .ref (mad g r1)), (2, .int v2), (3, .int v3), (4, .int v4), (5, .int v5)] [] h (self15 v5 h)) (hr1 : mkn g r1 132) (h : mH) : mw g l 1 mX9_findMasks (fun r : mH => ((none : Option Value), r)) 125 [(0, .ref (mad g 82)), (1, .ref (mad g r1)), (2, .int v2), (3, .int v3), (4, .int v4), (5, .int v5), (6, .int v6)] [] h (x_X9_findMasks_125 N self15 r1 v2 v3 v4 v5 v6 h) := by
  unfold x_X9_findMasks_125
  refine mw_iload (n := 127) (q := 6) dX9_findMasks_125 rfl rfl ?_
  refine mw_if_eq (n := 130) (t := 158) dX9_findMasks_127 rfl (by decide) Iff.rfl (fun c1 => ?_) (fun c1 => ?_)
  · refine mw_sub [0, 1, 2, 3, 4, 5] rfl ?_
    exact b_X9_findMasks_158 hg N r1 v2 v3 v4 v5 self15 hself15 hr1 h
  · refine mw_aload_n (n := 131) (q := 0) dX9_findMasks_130 rfl rfl rfl ?_
    refine mw_getr (n := 134) (a := 82) (k := 14) cl9 (mkm hg (by decide) (by rfl)) (by decide) rfl rfl fl_X9_38 dX9_findMasks_131 rfl ?_
    refine mw_bipush (n := 136) (v := 10) dX9_findMasks_134 rfl (by decide) ?_
    refine mw_iload_n (n := 137) (q := 2) dX9_findMasks_136 rfl rfl rfl ?_
    refine mw_imul (n := 138) dX9_findMasks_137 rfl ?_
    refine mw_aload_n (n := 139) (q := 0) dX9_findMasks_138 rfl rfl rfl ?_
    refine mw_getr (n := 142) (a := 82) (k := 15) cl9 (mkm hg (by decide) (by rfl)) (by decide) rfl rfl fl_X9_41 dX9_findMasks_139 rfl ?_
    refine mw_iload_n (n := 143) (q := 2) dX9_findMasks_142 rfl rfl rfl ?_
    refine mw_iald (n := 144) (a := 93) (N := 4) (mkm hg (by decide) (by rfl)) dX9_findMasks_143 rfl ?_
    refine mw_iadd (n := 145) dX9_findMasks_144 rfl ?_
    refine mw_iload (n := 147) (q := 5) dX9_findMasks_145 rfl rfl ?_
    refine mw_iast (n := 148) (a := 92) (N := 40) (mkm hg (by decide) (by rfl)) dX9_findMasks_147 rfl (mw_leth (fun h2 => ?_))
    refine mw_aload_n (n := 149) (q := 0) dX9_findMasks_148 rfl rfl rfl ?_
    refine mw_getr (n := 152) (a := 82) (k := 15) cl9 (mkm hg (by decide) (by rfl)) (by decide) rfl rfl fl_X9_41 dX9_findMasks_149 rfl ?_
    refine mw_iload_n (n := 153) (q := 2) dX9_findMasks_152 rfl rfl rfl ?_
    refine mw_dup2 (n := 154) dX9_findMasks_153 rfl rfl rfl ?_
    refine mw_iald (n := 155) (a := 93) (N := 4) (mkm hg (by decide) (by rfl)) dX9_findMasks_154 rfl ?_
    refine mw_iconst (n := 156) (v := 1) dX9_findMasks_155 rfl (by decide) ?_
    refine mw_iadd (n := 157) dX9_findMasks_156 rfl ?_
    refine mw_iast (n := 158) (a := 93) (N := 4) (mkm hg (by decide) (by rfl)) dX9_findMasks_157 rfl (mw_leth (fun h3 => ?_))
    refine mw_sub [0, 1, 2, 3, 4, 5] rfl ?_
    exact b_X9_findMasks_158 hg N r1 v2 v3 v4 v5 self15 hself15 hr1 h3
noncomputable def x_X9_findMasks_117 (N : Nat) (self15 : Int32 → mH → Option (mH)) (self47 : Int32 → Int32 → mH → Option (mH)) (r1 : Nat) (v2 : Int32) (v3 : Int32) (v4 : Int32) (v5 : Int32) (v7 : Int32) (s0 : Int32) (h : mH) : Option (mH) :=
  self47 s0 (v7 + (1 : Int32)) h
set_option maxRecDepth 20000 in
set_option maxHeartbeats 4000000 in
theorem b_X9_findMasks_117 {g : mG} {l : Launch} (hg : mnn g = 101) (N : Nat) (r1 : Nat) (v2 : Int32) (v3 : Int32) (v4 : Int32) (v5 : Int32) (v7 : Int32) (s0 : Int32) (self15 : Int32 → mH → Option (mH)) (hself15 : ∀ (v5 : Int32) (h : mH), mw g l 1 mX9_findMasks (fun r : mH => ((none : Option Value), r)) 15 [(0, .ref (mad g 82)), (1, .ref (mad g r1)), (2, .int v2), (3, .int v3), (4, .int v4), (5, .int v5)] [] h (self15 v5 h)) (self47 : Int32 → Int32 → mH → Option (mH)) (hself47 : ∀ (v6 : Int32) (v7 : Int32) (h : mH), mw g l 1 mX9_findMasks (fun r : mH => ((none : Option Value), r)) 47 [(0, .ref (mad g 82)), (1, .ref (mad g r1)), (2, .int v2), (3, .int v3), (4, .int v4), (5, .int v5), (6, .int v6), (7, .int v7)] [] h (self47 v6 v7 h)) (hr1 : mkn g r1 132) (h : mH) : mw g l 1 mX9_findMasks (fun r : mH => ((none : Option Value), r)) 117 [(0, .ref (mad g 82)), (1, .ref (mad g r1)), (2, .int v2), (3, .int v3), (4, .int v4), (5, .int v5), (7, .int v7)] [.int s0] h (x_X9_findMasks_117 N self15 self47 r1 v2 v3 v4 v5 v7 s0 h) := by
  unfold x_X9_findMasks_117
  refine mw_istore (n := 119) dX9_findMasks_117 rfl (by decide) rfl ?_
  refine mw_iinc (n := 122) (q := 7) (v := (v7 + (1 : Int32))) dX9_findMasks_119 rfl rfl rfl (by decide) rfl ?_
  refine mw_goto (n := 47) dX9_findMasks_122 (by decide) ?_
  refine mw_sub [2, 3, 4, 5, 6, 7, 1, 0] rfl ?_
  exact hself47 s0 (v7 + (1 : Int32)) h
noncomputable def x_X9_findMasks_112 (N : Nat) (self15 : Int32 → mH → Option (mH)) (self47 : Int32 → Int32 → mH → Option (mH)) (r1 : Nat) (v2 : Int32) (v3 : Int32) (v4 : Int32) (v5 : Int32) (v7 : Int32) (h : mH) : Option (mH) :=
  x_X9_findMasks_117 N self15 self47 r1 v2 v3 v4 v5 v7 (1 : Int32) h
set_option maxRecDepth 20000 in
set_option maxHeartbeats 4000000 in
theorem b_X9_findMasks_112 {g : mG} {l : Launch} (hg : mnn g = 101) (N : Nat) (r1 : Nat) (v2 : Int32) (v3 : Int32) (v4 : Int32) (v5 : Int32) (v7 : Int32) (self15 : Int32 → mH → Option (mH)) (hself15 : ∀ (v5 : Int32) (h : mH), mw g l 1 mX9_findMasks (fun r : mH => ((none : Option Value), r)) 15 [(0, .ref (mad g 82)), (1, .ref (mad g r1)), (2, .int v2), (3, .int v3), (4, .int v4), (5, .int v5)] [] h (self15 v5 h)) (self47 : Int32 → Int32 → mH → Option (mH)) (hself47 : ∀ (v6 : Int32) (v7 : Int32) (h : mH), mw g l 1 mX9_findMasks (fun r : mH => ((none : Option Value), r)) 47 [(0, .ref (mad g 82)), (1, .ref (mad g r1)), (2, .int v2), (3, .int v3), (4, .int v4), (5, .int v5), (6, .int v6), (7, .int v7)] [] h (self47 v6 v7 h)) (hr1 : mkn g r1 132) (h : mH) : mw g l 1 mX9_findMasks (fun r : mH => ((none : Option Value), r)) 112 [(0, .ref (mad g 82)), (1, .ref (mad g r1)), (2, .int v2), (3, .int v3), (4, .int v4), (5, .int v5), (7, .int v7)] [] h (x_X9_findMasks_112 N self15 self47 r1 v2 v3 v4 v5 v7 h) := by
  unfold x_X9_findMasks_112
  refine mw_iconst (n := 113) (v := 1) dX9_findMasks_112 rfl (by decide) ?_
  refine mw_goto (n := 117) dX9_findMasks_113 (by decide) ?_
  exact b_X9_findMasks_117 hg N r1 v2 v3 v4 v5 v7 (1 : Int32) self15 hself15 self47 hself47 hr1 h
noncomputable def x_X9_findMasks_79 (N : Nat) (self15 : Int32 → mH → Option (mH)) (self47 : Int32 → Int32 → mH → Option (mH)) (r1 : Nat) (v2 : Int32) (v3 : Int32) (v4 : Int32) (v5 : Int32) (v7 : Int32) (s0 : Int32) (h : mH) : Option (mH) :=
  if s0 = 0 then
    x_X9_findMasks_112 N self15 self47 r1 v2 v3 v4 v5 v7 h
  else
    (x_X9_has v5 ((v4 - (1 : Int32)) - v7)).bind fun q2 =>
    mlet (if ¬ q2 = (if ¬ s0 = (1 : Int32) then (0 : Int32) else (1 : Int32)) then (0 : Int32) else (1 : Int32)) fun u5 =>
    self47 u5 (v7 + (1 : Int32)) h
set_option maxRecDepth 20000 in
set_option maxHeartbeats 4000000 in
theorem b_X9_findMasks_79 {g : mG} {l : Launch} (hg : mnn g = 101) (N : Nat) (r1 : Nat) (v2 : Int32) (v3 : Int32) (v4 : Int32) (v5 : Int32) (v7 : Int32) (s0 : Int32) (self15 : Int32 → mH → Option (mH)) (hself15 : ∀ (v5 : Int32) (h : mH), mw g l 1 mX9_findMasks (fun r : mH => ((none : Option Value), r)) 15 [(0, .ref (mad g 82)), (1, .ref (mad g r1)), (2, .int v2), (3, .int v3), (4, .int v4), (5, .int v5)] [] h (self15 v5 h)) (self47 : Int32 → Int32 → mH → Option (mH)) (hself47 : ∀ (v6 : Int32) (v7 : Int32) (h : mH), mw g l 1 mX9_findMasks (fun r : mH => ((none : Option Value), r)) 47 [(0, .ref (mad g 82)), (1, .ref (mad g r1)), (2, .int v2), (3, .int v3), (4, .int v4), (5, .int v5), (6, .int v6), (7, .int v7)] [] h (self47 v6 v7 h)) (hr1 : mkn g r1 132) (h : mH) : mw g l 1 mX9_findMasks (fun r : mH => ((none : Option Value), r)) 79 [(0, .ref (mad g 82)), (1, .ref (mad g r1)), (2, .int v2), (3, .int v3), (4, .int v4), (5, .int v5), (7, .int v7)] [.int s0] h (x_X9_findMasks_79 N self15 self47 r1 v2 v3 v4 v5 v7 s0 h) := by
  unfold x_X9_findMasks_79
  refine mw_istore (n := 81) dX9_findMasks_79 rfl (by decide) rfl ?_
  refine mw_iload (n := 83) (q := 0) dX9_findMasks_81 rfl rfl ?_
  refine mw_if_eq (n := 86) (t := 112) dX9_findMasks_83 rfl (by decide) Iff.rfl (fun c1 => ?_) (fun c1 => ?_)
  · refine mw_sub [1, 2, 3, 4, 5, 6, 7] rfl ?_
    exact b_X9_findMasks_112 hg N r1 v2 v3 v4 v5 v7 self15 hself15 self47 hself47 hr1 h
  · refine mw_iload (n := 88) (q := 6) dX9_findMasks_86 rfl rfl ?_
    refine mw_iload (n := 90) (q := 5) dX9_findMasks_88 rfl rfl ?_
    refine mw_iconst (n := 91) (v := 1) dX9_findMasks_90 rfl (by decide) ?_
    refine mw_isub (n := 92) dX9_findMasks_91 rfl ?_
    refine mw_iload (n := 94) (q := 7) dX9_findMasks_92 rfl rfl ?_
    refine mw_isub (n := 95) dX9_findMasks_94 rfl ?_
    refine mw_callS (n := 98) (As := [.int v5, .int ((v4 - (1 : Int32)) - v7)]) (t_X9_has hg v5 ((v4 - (1 : Int32)) - v7) h) (by decide) ok_X9_has rfl lk_X9_73 sm_X9_has dX9_findMasks_95 rfl rfl (Nat.le_of_ble_eq_true rfl) (fun q2 _ => ?_)
    show mw g l _ _ _ 98 _ [.int q2] h _
    refine mw_iload (n := 100) (q := 0) dX9_findMasks_98 rfl rfl ?_
    refine mw_iconst (n := 101) (v := 1) dX9_findMasks_100 rfl (by decide) ?_
    refine mw_cutJ (pc' := 109) (lv' := [(8, .int s0), (0, .ref (mad g 82)), (1, .ref (mad g r1)), (2, .int v2), (3, .int v3), (4, .int v4), (5, .int v5), (7, .int v7)]) (st' := [.int (if ¬ s0 = (1 : Int32) then (0 : Int32) else (1 : Int32)), .int q2]) (fun J => ?_) ?_
    · refine mw_icmp_ne_m (n := 104) (t := 108) dX9_findMasks_101 rfl (by decide) (fun c3 => ?_) (fun c3 => ?_)
      · refine mw_iconst (n := 109) (v := 0) dX9_findMasks_108 rfl (by decide) ?_
        exact mw_topeq (if_pos c3).symm J
      · refine mw_iconst (n := 105) (v := 1) dX9_findMasks_104 rfl (by decide) ?_
        refine mw_goto (n := 109) dX9_findMasks_105 (by decide) ?_
        exact mw_topeq (if_neg c3).symm J
    refine mw_cutJ (pc' := 117) (lv' := [(8, .int s0), (0, .ref (mad g 82)), (1, .ref (mad g r1)), (2, .int v2), (3, .int v3), (4, .int v4), (5, .int v5), (7, .int v7)]) (st' := [.int (if ¬ q2 = (if ¬ s0 = (1 : Int32) then (0 : Int32) else (1 : Int32)) then (0 : Int32) else (1 : Int32))]) (fun J => ?_) ?_
    · refine mw_icmp_ne_m (n := 112) (t := 116) dX9_findMasks_109 rfl (by decide) (fun c4 => ?_) (fun c4 => ?_)
      · refine mw_iconst (n := 117) (v := 0) dX9_findMasks_116 rfl (by decide) ?_
        exact mw_topeq (if_pos c4).symm J
      · refine mw_iconst (n := 113) (v := 1) dX9_findMasks_112 rfl (by decide) ?_
        refine mw_goto (n := 117) dX9_findMasks_113 (by decide) ?_
        exact mw_topeq (if_neg c4).symm J
    refine mw_letI (fun u5 => ?_)
    refine mw_istore (n := 119) dX9_findMasks_117 rfl (by decide) rfl ?_
    refine mw_iinc (n := 122) (q := 8) (v := (v7 + (1 : Int32))) dX9_findMasks_119 rfl rfl rfl (by decide) rfl ?_
    refine mw_goto (n := 47) dX9_findMasks_122 (by decide) ?_
    refine mw_sub [3, 4, 5, 6, 7, 8, 1, 0] rfl ?_
    exact hself47 u5 (v7 + (1 : Int32)) h
noncomputable def x_X9_findMasks_47 (N : Nat) (self15 : Int32 → mH → Option (mH)) (r1 : Nat) (v2 : Int32) (v3 : Int32) (v4 : Int32) (v5 : Int32) (f : Nat) : Int32 → Int32 → mH → Option (mH) :=
  Nat.rec (motive := fun _ => Int32 → Int32 → mH → Option (mH)) (fun _ _ _ => none) (fun _ self47 => fun v6 v7 h => 
    if v4 ≤ v7 then
      x_X9_findMasks_125 N self15 r1 v2 v3 v4 v5 v6 h
    else
      if v6 = 0 then
        x_X9_findMasks_125 N self15 r1 v2 v3 v4 v5 v6 h
      else
        if v3 = 0 then
          x_X9_findMasks_79 N self15 self47 r1 v2 v3 v4 v5 v7 (0 : Int32) h
        else
          mck (((11 : Int32) + (v4 * v2)) + v7) 32 <|
          x_X9_findMasks_79 N self15 self47 r1 v2 v3 v4 v5 v7 (mgi h r1 ((((11 : Int32) + (v4 * v2)) + v7)).toNatClampNeg) h) f
theorem x_X9_findMasks_47_0 (N : Nat) (self15 : Int32 → mH → Option (mH)) (r1 : Nat) (v2 : Int32) (v3 : Int32) (v4 : Int32) (v5 : Int32) (v6 : Int32) (v7 : Int32) (h : mH) : x_X9_findMasks_47 N self15 r1 v2 v3 v4 v5 0 v6 v7 h = none := rfl
theorem x_X9_findMasks_47_s (N : Nat) (self15 : Int32 → mH → Option (mH)) (r1 : Nat) (v2 : Int32) (v3 : Int32) (v4 : Int32) (v5 : Int32) (f : Nat) (v6 : Int32) (v7 : Int32) (h : mH) : x_X9_findMasks_47 N self15 r1 v2 v3 v4 v5 (f + 1) v6 v7 h = (
    if v4 ≤ v7 then
      x_X9_findMasks_125 N self15 r1 v2 v3 v4 v5 v6 h
    else
      if v6 = 0 then
        x_X9_findMasks_125 N self15 r1 v2 v3 v4 v5 v6 h
      else
        if v3 = 0 then
          x_X9_findMasks_79 N self15 (x_X9_findMasks_47 N self15 r1 v2 v3 v4 v5 f) r1 v2 v3 v4 v5 v7 (0 : Int32) h
        else
          mck (((11 : Int32) + (v4 * v2)) + v7) 32 <|
          x_X9_findMasks_79 N self15 (x_X9_findMasks_47 N self15 r1 v2 v3 v4 v5 f) r1 v2 v3 v4 v5 v7 (mgi h r1 ((((11 : Int32) + (v4 * v2)) + v7)).toNatClampNeg) h) := rfl
set_option maxRecDepth 20000 in
set_option maxHeartbeats 4000000 in
theorem b_X9_findMasks_47 {g : mG} {l : Launch} (hg : mnn g = 101) (N : Nat) (r1 : Nat) (v2 : Int32) (v3 : Int32) (v4 : Int32) (v5 : Int32) (self15 : Int32 → mH → Option (mH)) (hself15 : ∀ (v5 : Int32) (h : mH), mw g l 1 mX9_findMasks (fun r : mH => ((none : Option Value), r)) 15 [(0, .ref (mad g 82)), (1, .ref (mad g r1)), (2, .int v2), (3, .int v3), (4, .int v4), (5, .int v5)] [] h (self15 v5 h)) (hr1 : mkn g r1 132) (f : Nat) : ∀ (v6 : Int32) (v7 : Int32) (h : mH), mw g l 1 mX9_findMasks (fun r : mH => ((none : Option Value), r)) 47 [(0, .ref (mad g 82)), (1, .ref (mad g r1)), (2, .int v2), (3, .int v3), (4, .int v4), (5, .int v5), (6, .int v6), (7, .int v7)] [] h (x_X9_findMasks_47 N self15 r1 v2 v3 v4 v5 f v6 v7 h) := by
  induction f with
  | zero => intros; exact mw_none
  | succ f hself47 =>
    intro v6 v7 h
    refine mw_eq (x_X9_findMasks_47_s N self15 r1 v2 v3 v4 v5 f v6 v7 h) ?_
    generalize x_X9_findMasks_47 N self15 r1 v2 v3 v4 v5 f = self47 at hself47 ⊢
    refine mw_iload (n := 49) (q := 7) dX9_findMasks_47 rfl rfl ?_
    refine mw_iload (n := 51) (q := 4) dX9_findMasks_49 rfl rfl ?_
    refine mw_icmp_ge (n := 54) (t := 125) dX9_findMasks_51 rfl (by decide) Iff.rfl (fun c1 => ?_) (fun c1 => ?_)
    · refine mw_sub [0, 1, 2, 3, 4, 5, 6] rfl ?_
      exact b_X9_findMasks_125 hg N r1 v2 v3 v4 v5 v6 self15 hself15 hr1 h
    · refine mw_iload (n := 56) (q := 6) dX9_findMasks_54 rfl rfl ?_
      refine mw_if_eq (n := 59) (t := 125) dX9_findMasks_56 rfl (by decide) Iff.rfl (fun c2 => ?_) (fun c2 => ?_)
      · refine mw_sub [0, 1, 2, 3, 4, 5, 6] rfl ?_
        exact b_X9_findMasks_125 hg N r1 v2 v3 v4 v5 v6 self15 hself15 hr1 h
      · refine mw_iload_n (n := 60) (q := 3) dX9_findMasks_59 rfl rfl rfl ?_
        refine mw_if_eq (n := 63) (t := 78) dX9_findMasks_60 rfl (by decide) Iff.rfl (fun c3 => ?_) (fun c3 => ?_)
        · refine mw_iconst (n := 79) (v := 0) dX9_findMasks_78 rfl (by decide) ?_
          refine mw_sub [0, 1, 2, 3, 4, 5, 7] rfl ?_
          exact b_X9_findMasks_79 hg N r1 v2 v3 v4 v5 v7 (0 : Int32) self15 hself15 self47 hself47 hr1 h
        · refine mw_aload_n (n := 64) (q := 1) dX9_findMasks_63 rfl rfl rfl ?_
          refine mw_bipush (n := 66) (v := 11) dX9_findMasks_64 rfl (by decide) ?_
          refine mw_iload (n := 68) (q := 4) dX9_findMasks_66 rfl rfl ?_
          refine mw_iload_n (n := 69) (q := 2) dX9_findMasks_68 rfl rfl rfl ?_
          refine mw_imul (n := 70) dX9_findMasks_69 rfl ?_
          refine mw_iadd (n := 71) dX9_findMasks_70 rfl ?_
          refine mw_iload (n := 73) (q := 7) dX9_findMasks_71 rfl rfl ?_
          refine mw_iadd (n := 74) dX9_findMasks_73 rfl ?_
          refine mw_iald (n := 75) (a := r1) (N := 32) hr1 dX9_findMasks_74 rfl ?_
          refine mw_goto (n := 79) dX9_findMasks_75 (by decide) ?_
          refine mw_sub [0, 1, 2, 3, 4, 5, 7] rfl ?_
          exact b_X9_findMasks_79 hg N r1 v2 v3 v4 v5 v7 (mgi h r1 ((((11 : Int32) + (v4 * v2)) + v7)).toNatClampNeg) self15 hself15 self47 hself47 hr1 h
noncomputable def x_X9_findMasks_15 (N : Nat) (r1 : Nat) (v2 : Int32) (v3 : Int32) (v4 : Int32) (f : Nat) : Int32 → mH → Option (mH) :=
  Nat.rec (motive := fun _ => Int32 → mH → Option (mH)) (fun _ _ => none) (fun _ self15 => fun v5 h => 
    if ((1 : Int32) <<< (v4 &&& 31)) ≤ v5 then
      some h
    else
      (x_X9_ones N v5).bind fun q2 =>
      mck ((2 : Int32) + v2) 32 <|
      mlet (if ¬ q2 = (mgi h r1 (((2 : Int32) + v2)).toNatClampNeg) then (0 : Int32) else (1 : Int32)) fun u4 =>
      x_X9_findMasks_47 N self15 r1 v2 v3 v4 v5 N u4 (0 : Int32) h) f
theorem x_X9_findMasks_15_0 (N : Nat) (r1 : Nat) (v2 : Int32) (v3 : Int32) (v4 : Int32) (v5 : Int32) (h : mH) : x_X9_findMasks_15 N r1 v2 v3 v4 0 v5 h = none := rfl
theorem x_X9_findMasks_15_s (N : Nat) (r1 : Nat) (v2 : Int32) (v3 : Int32) (v4 : Int32) (f : Nat) (v5 : Int32) (h : mH) : x_X9_findMasks_15 N r1 v2 v3 v4 (f + 1) v5 h = (
    if ((1 : Int32) <<< (v4 &&& 31)) ≤ v5 then
      some h
    else
      (x_X9_ones N v5).bind fun q2 =>
      mck ((2 : Int32) + v2) 32 <|
      mlet (if ¬ q2 = (mgi h r1 (((2 : Int32) + v2)).toNatClampNeg) then (0 : Int32) else (1 : Int32)) fun u4 =>
      x_X9_findMasks_47 N (x_X9_findMasks_15 N r1 v2 v3 v4 f) r1 v2 v3 v4 v5 N u4 (0 : Int32) h) := rfl
set_option maxRecDepth 20000 in
set_option maxHeartbeats 4000000 in
theorem b_X9_findMasks_15 {g : mG} {l : Launch} (hg : mnn g = 101) (N : Nat) (r1 : Nat) (v2 : Int32) (v3 : Int32) (v4 : Int32) (hr1 : mkn g r1 132) (f : Nat) : ∀ (v5 : Int32) (h : mH), mw g l 1 mX9_findMasks (fun r : mH => ((none : Option Value), r)) 15 [(0, .ref (mad g 82)), (1, .ref (mad g r1)), (2, .int v2), (3, .int v3), (4, .int v4), (5, .int v5)] [] h (x_X9_findMasks_15 N r1 v2 v3 v4 f v5 h) := by
  induction f with
  | zero => intros; exact mw_none
  | succ f hself15 =>
    intro v5 h
    refine mw_eq (x_X9_findMasks_15_s N r1 v2 v3 v4 f v5 h) ?_
    generalize x_X9_findMasks_15 N r1 v2 v3 v4 f = self15 at hself15 ⊢
    refine mw_iload (n := 17) (q := 5) dX9_findMasks_15 rfl rfl ?_
    refine mw_iconst (n := 18) (v := 1) dX9_findMasks_17 rfl (by decide) ?_
    refine mw_iload (n := 20) (q := 4) dX9_findMasks_18 rfl rfl ?_
    refine mw_ishl (n := 21) dX9_findMasks_20 rfl ?_
    refine mw_icmp_ge (n := 24) (t := 164) dX9_findMasks_21 rfl (by decide) Iff.rfl (fun c1 => ?_) (fun c1 => ?_)
    · exact mw_vret dX9_findMasks_164 rfl rfl
    · refine mw_iload (n := 26) (q := 5) dX9_findMasks_24 rfl rfl ?_
      refine mw_callS (n := 29) (As := [.int v5]) (t_X9_ones hg N v5 h) (by decide) ok_X9_ones rfl lk_X9_105 sm_X9_ones dX9_findMasks_26 rfl rfl (Nat.le_of_ble_eq_true rfl) (fun q2 _ => ?_)
      show mw g l _ _ _ 29 _ [.int q2] h _
      refine mw_aload_n (n := 30) (q := 1) dX9_findMasks_29 rfl rfl rfl ?_
      refine mw_iconst (n := 31) (v := 2) dX9_findMasks_30 rfl (by decide) ?_
      refine mw_iload_n (n := 32) (q := 2) dX9_findMasks_31 rfl rfl rfl ?_
      refine mw_iadd (n := 33) dX9_findMasks_32 rfl ?_
      refine mw_iald (n := 34) (a := r1) (N := 32) hr1 dX9_findMasks_33 rfl ?_
      refine mw_cutJ (pc' := 42) (lv' := [(0, .ref (mad g 82)), (1, .ref (mad g r1)), (2, .int v2), (3, .int v3), (4, .int v4), (5, .int v5)]) (st' := [.int (if ¬ q2 = (mgi h r1 (((2 : Int32) + v2)).toNatClampNeg) then (0 : Int32) else (1 : Int32))]) (fun J => ?_) ?_
      · refine mw_icmp_ne_m (n := 37) (t := 41) dX9_findMasks_34 rfl (by decide) (fun c3 => ?_) (fun c3 => ?_)
        · refine mw_iconst (n := 42) (v := 0) dX9_findMasks_41 rfl (by decide) ?_
          exact mw_topeq (if_pos c3).symm J
        · refine mw_iconst (n := 38) (v := 1) dX9_findMasks_37 rfl (by decide) ?_
          refine mw_goto (n := 42) dX9_findMasks_38 (by decide) ?_
          exact mw_topeq (if_neg c3).symm J
      refine mw_letI (fun u4 => ?_)
      refine mw_istore (n := 44) dX9_findMasks_42 rfl (by decide) rfl ?_
      refine mw_iconst (n := 45) (v := 0) dX9_findMasks_44 rfl (by decide) ?_
      refine mw_istore (n := 47) dX9_findMasks_45 rfl (by decide) rfl ?_
      refine mw_sub [2, 3, 4, 5, 6, 7, 1, 0] rfl ?_
      exact b_X9_findMasks_47 hg N r1 v2 v3 v4 v5 self15 hself15 hr1 N u4 (0 : Int32) h
noncomputable def x_X9_findMasks (N : Nat) (p0 : Nat) (p1 : Int32) (p2 : Int32) (h : mH) : Option (mH) :=
  mlet (mgi h p0 1) fun u1 =>
  mck p1 4 <|
  mlet (msi h 93 (p1).toNatClampNeg (0 : Int32)) fun h2 =>
  x_X9_findMasks_15 N p0 p1 p2 u1 N (0 : Int32) h2
set_option maxRecDepth 20000 in
set_option maxHeartbeats 4000000 in
theorem t_X9_findMasks {g : mG} {l : Launch} (hg : mnn g = 101) (N : Nat) (p0 : Nat) (p1 : Int32) (p2 : Int32) (hp0 : mkn g p0 132) (h : mH) : mf g l 1 mX9_findMasks (fun r : mH => ((none : Option Value), r)) [.ref (mad g 82), .ref (mad g p0), .int p1, .int p2] h (x_X9_findMasks N p0 p1 p2 h) := by
  refine mf_of (by decide) (Nat.le_of_ble_eq_true rfl) ?_
  show mw g l 1 mX9_findMasks (fun r : mH => ((none : Option Value), r)) 0 [(0, .ref (mad g 82)), (1, .ref (mad g p0)), (2, .int p1), (3, .int p2)] [] h _
  unfold x_X9_findMasks
  refine mw_aload_n (n := 1) (q := 1) dX9_findMasks_0 rfl rfl rfl ?_
  refine mw_iconst (n := 2) (v := 1) dX9_findMasks_1 rfl (by decide) ?_
  refine mw_iaLd (n := 3) (a := p0) (j := 1) (N := 32) hp0 (by decide) (by decide) dX9_findMasks_2 rfl ?_
  refine mw_letI (fun u1 => ?_)
  refine mw_istore (n := 5) dX9_findMasks_3 rfl (by decide) rfl ?_
  refine mw_aload_n (n := 6) (q := 1) dX9_findMasks_5 rfl rfl rfl ?_
  refine mw_getr (n := 9) (a := 82) (k := 15) cl9 (mkm hg (by decide) (by rfl)) (by decide) rfl rfl fl_X9_41 dX9_findMasks_6 rfl ?_
  refine mw_iload_n (n := 10) (q := 3) dX9_findMasks_9 rfl rfl rfl ?_
  refine mw_iconst (n := 11) (v := 0) dX9_findMasks_10 rfl (by decide) ?_
  refine mw_iast (n := 12) (a := 93) (N := 4) (mkm hg (by decide) (by rfl)) dX9_findMasks_11 rfl (mw_leth (fun h2 => ?_))
  refine mw_iconst (n := 13) (v := 0) dX9_findMasks_12 rfl (by decide) ?_
  refine mw_istore (n := 15) dX9_findMasks_13 rfl (by decide) rfl ?_
  refine mw_sub [2, 3, 4, 5, 1, 0] rfl ?_
  exact b_X9_findMasks_15 hg N p0 p1 p2 u1 hp0 N (0 : Int32) h2
noncomputable def x_X9_packed_4 (N : Nat) (v0 : Int32) (v1 : Int32) (f : Nat) : Int32 → Int32 → Option (Int32) :=
  Nat.rec (motive := fun _ => Int32 → Int32 → Option (Int32)) (fun _ _ => none) (fun _ self4 => fun v2 v3 => 
    if v1 ≤ v3 then
      some v2
    else
      (x_X9_has v0 ((v1 - (1 : Int32)) - v3)).bind fun q2 =>
      mlet ((v2 <<< ((3 : Int32) &&& 31)) ||| (if q2 = 0 then (0 : Int32) else (1 : Int32))) fun u4 =>
      self4 u4 (v3 + (1 : Int32))) f
theorem x_X9_packed_4_0 (N : Nat) (v0 : Int32) (v1 : Int32) (v2 : Int32) (v3 : Int32) : x_X9_packed_4 N v0 v1 0 v2 v3 = none := rfl
theorem x_X9_packed_4_s (N : Nat) (v0 : Int32) (v1 : Int32) (f : Nat) (v2 : Int32) (v3 : Int32) : x_X9_packed_4 N v0 v1 (f + 1) v2 v3 = (
    if v1 ≤ v3 then
      some v2
    else
      (x_X9_has v0 ((v1 - (1 : Int32)) - v3)).bind fun q2 =>
      mlet ((v2 <<< ((3 : Int32) &&& 31)) ||| (if q2 = 0 then (0 : Int32) else (1 : Int32))) fun u4 =>
      (x_X9_packed_4 N v0 v1 f) u4 (v3 + (1 : Int32))) := rfl
set_option maxRecDepth 20000 in
set_option maxHeartbeats 4000000 in
theorem b_X9_packed_4 {g : mG} {l : Launch} (hg : mnn g = 101) (N : Nat) (v0 : Int32) (v1 : Int32) (h : mH) (f : Nat) : ∀ (v2 : Int32) (v3 : Int32), mw g l 1 mX9_packed (fun r : Int32 => (some (Value.int r), h)) 4 [(0, .int v0), (1, .int v1), (2, .int v2), (3, .int v3)] [] h (x_X9_packed_4 N v0 v1 f v2 v3) := by
  induction f with
  | zero => intros; exact mw_none
  | succ f hself4 =>
    intro v2 v3
    refine mw_eq (x_X9_packed_4_s N v0 v1 f v2 v3) ?_
    generalize x_X9_packed_4 N v0 v1 f = self4 at hself4 ⊢
    refine mw_iload_n (n := 5) (q := 3) dX9_packed_4 rfl rfl rfl ?_
    refine mw_iload_n (n := 6) (q := 1) dX9_packed_5 rfl rfl rfl ?_
    refine mw_icmp_ge (n := 9) (t := 37) dX9_packed_6 rfl (by decide) Iff.rfl (fun c1 => ?_) (fun c1 => ?_)
    · refine mw_iload_n (n := 38) (q := 2) dX9_packed_37 rfl rfl rfl ?_
      exact mw_iret dX9_packed_38 rfl rfl
    · refine mw_iload_n (n := 10) (q := 2) dX9_packed_9 rfl rfl rfl ?_
      refine mw_iconst (n := 11) (v := 3) dX9_packed_10 rfl (by decide) ?_
      refine mw_ishl (n := 12) dX9_packed_11 rfl ?_
      refine mw_iload_n (n := 13) (q := 0) dX9_packed_12 rfl rfl rfl ?_
      refine mw_iload_n (n := 14) (q := 1) dX9_packed_13 rfl rfl rfl ?_
      refine mw_iconst (n := 15) (v := 1) dX9_packed_14 rfl (by decide) ?_
      refine mw_isub (n := 16) dX9_packed_15 rfl ?_
      refine mw_iload_n (n := 17) (q := 3) dX9_packed_16 rfl rfl rfl ?_
      refine mw_isub (n := 18) dX9_packed_17 rfl ?_
      refine mw_callS (n := 21) (As := [.int v0, .int ((v1 - (1 : Int32)) - v3)]) (t_X9_has hg v0 ((v1 - (1 : Int32)) - v3) h) (by decide) ok_X9_has rfl lk_X9_73 sm_X9_has dX9_packed_18 rfl rfl (Nat.le_of_ble_eq_true rfl) (fun q2 _ => ?_)
      show mw g l _ _ _ 21 _ [.int q2, .int (v2 <<< ((3 : Int32) &&& 31))] h _
      refine mw_cutJ (pc' := 29) (lv' := [(0, .int v0), (1, .int v1), (2, .int v2), (3, .int v3)]) (st' := [.int (if q2 = 0 then (0 : Int32) else (1 : Int32)), .int (v2 <<< ((3 : Int32) &&& 31))]) (fun J => ?_) ?_
      · refine mw_if_eq_m (n := 24) (t := 28) dX9_packed_21 rfl (by decide) (fun c3 => ?_) (fun c3 => ?_)
        · refine mw_iconst (n := 29) (v := 0) dX9_packed_28 rfl (by decide) ?_
          exact mw_topeq (if_pos c3).symm J
        · refine mw_iconst (n := 25) (v := 1) dX9_packed_24 rfl (by decide) ?_
          refine mw_goto (n := 29) dX9_packed_25 (by decide) ?_
          exact mw_topeq (if_neg c3).symm J
      refine mw_ior (n := 30) dX9_packed_29 rfl ?_
      refine mw_letI (fun u4 => ?_)
      refine mw_istore_n (n := 31) dX9_packed_30 rfl rfl (by decide) rfl ?_
      refine mw_iinc (n := 34) (q := 3) (v := (v3 + (1 : Int32))) dX9_packed_31 rfl rfl rfl (by decide) rfl ?_
      refine mw_goto (n := 4) dX9_packed_34 (by decide) ?_
      refine mw_sub [2, 3, 1, 0] rfl ?_
      exact hself4 u4 (v3 + (1 : Int32))
noncomputable def x_X9_packed (N : Nat) (p0 : Int32) (p1 : Int32) : Option (Int32) :=
  x_X9_packed_4 N p0 p1 N (0 : Int32) (0 : Int32)
set_option maxRecDepth 20000 in
set_option maxHeartbeats 4000000 in
theorem t_X9_packed {g : mG} {l : Launch} (hg : mnn g = 101) (N : Nat) (p0 : Int32) (p1 : Int32) (h : mH) : mf g l 1 mX9_packed (fun r : Int32 => (some (Value.int r), h)) [.int p0, .int p1] h (x_X9_packed N p0 p1) := by
  refine mf_of (by decide) (Nat.le_of_ble_eq_true rfl) ?_
  show mw g l 1 mX9_packed (fun r : Int32 => (some (Value.int r), h)) 0 [(0, .int p0), (1, .int p1)] [] h _
  unfold x_X9_packed
  refine mw_iconst (n := 1) (v := 0) dX9_packed_0 rfl (by decide) ?_
  refine mw_istore_n (n := 2) dX9_packed_1 rfl rfl (by decide) rfl ?_
  refine mw_iconst (n := 3) (v := 0) dX9_packed_2 rfl (by decide) ?_
  refine mw_istore_n (n := 4) dX9_packed_3 rfl rfl (by decide) rfl ?_
  refine mw_sub [2, 3, 1, 0] rfl ?_
  exact b_X9_packed_4 hg N p0 p1 h N (0 : Int32) (0 : Int32)
noncomputable def x_X9_target_4 (N : Nat) (r0 : Nat) (h : mH) (f : Nat) : Int32 → Int32 → Option (Int32) :=
  Nat.rec (motive := fun _ => Int32 → Int32 → Option (Int32)) (fun _ _ => none) (fun _ self4 => fun v1 v2 => 
    if (mgi h r0 1) ≤ v2 then
      some v1
    else
      mck ((6 : Int32) + v2) 32 <|
      mlet ((v1 <<< ((3 : Int32) &&& 31)) ||| (mgi h r0 (((6 : Int32) + v2)).toNatClampNeg)) fun u2 =>
      self4 u2 (v2 + (1 : Int32))) f
theorem x_X9_target_4_0 (N : Nat) (r0 : Nat) (h : mH) (v1 : Int32) (v2 : Int32) : x_X9_target_4 N r0 h 0 v1 v2 = none := rfl
theorem x_X9_target_4_s (N : Nat) (r0 : Nat) (h : mH) (f : Nat) (v1 : Int32) (v2 : Int32) : x_X9_target_4 N r0 h (f + 1) v1 v2 = (
    if (mgi h r0 1) ≤ v2 then
      some v1
    else
      mck ((6 : Int32) + v2) 32 <|
      mlet ((v1 <<< ((3 : Int32) &&& 31)) ||| (mgi h r0 (((6 : Int32) + v2)).toNatClampNeg)) fun u2 =>
      (x_X9_target_4 N r0 h f) u2 (v2 + (1 : Int32))) := rfl
set_option maxRecDepth 20000 in
set_option maxHeartbeats 4000000 in
theorem b_X9_target_4 {g : mG} {l : Launch} (hg : mnn g = 101) (N : Nat) (r0 : Nat) (h : mH) (hr0 : mkn g r0 132) (f : Nat) : ∀ (v1 : Int32) (v2 : Int32), mw g l 0 mX9_target (fun r : Int32 => (some (Value.int r), h)) 4 [(0, .ref (mad g r0)), (1, .int v1), (2, .int v2)] [] h (x_X9_target_4 N r0 h f v1 v2) := by
  induction f with
  | zero => intros; exact mw_none
  | succ f hself4 =>
    intro v1 v2
    refine mw_eq (x_X9_target_4_s N r0 h f v1 v2) ?_
    generalize x_X9_target_4 N r0 h f = self4 at hself4 ⊢
    refine mw_iload_n (n := 5) (q := 2) dX9_target_4 rfl rfl rfl ?_
    refine mw_aload_n (n := 6) (q := 0) dX9_target_5 rfl rfl rfl ?_
    refine mw_iconst (n := 7) (v := 1) dX9_target_6 rfl (by decide) ?_
    refine mw_iaLd (n := 8) (a := r0) (j := 1) (N := 32) hr0 (by decide) (by decide) dX9_target_7 rfl ?_
    refine mw_icmp_ge (n := 11) (t := 28) dX9_target_8 rfl (by decide) Iff.rfl (fun c1 => ?_) (fun c1 => ?_)
    · refine mw_iload_n (n := 29) (q := 1) dX9_target_28 rfl rfl rfl ?_
      exact mw_iret dX9_target_29 rfl rfl
    · refine mw_iload_n (n := 12) (q := 1) dX9_target_11 rfl rfl rfl ?_
      refine mw_iconst (n := 13) (v := 3) dX9_target_12 rfl (by decide) ?_
      refine mw_ishl (n := 14) dX9_target_13 rfl ?_
      refine mw_aload_n (n := 15) (q := 0) dX9_target_14 rfl rfl rfl ?_
      refine mw_bipush (n := 17) (v := 6) dX9_target_15 rfl (by decide) ?_
      refine mw_iload_n (n := 18) (q := 2) dX9_target_17 rfl rfl rfl ?_
      refine mw_iadd (n := 19) dX9_target_18 rfl ?_
      refine mw_iald (n := 20) (a := r0) (N := 32) hr0 dX9_target_19 rfl ?_
      refine mw_ior (n := 21) dX9_target_20 rfl ?_
      refine mw_letI (fun u2 => ?_)
      refine mw_istore_n (n := 22) dX9_target_21 rfl rfl (by decide) rfl ?_
      refine mw_iinc (n := 25) (q := 2) (v := (v2 + (1 : Int32))) dX9_target_22 rfl rfl rfl (by decide) rfl ?_
      refine mw_goto (n := 4) dX9_target_25 (by decide) ?_
      refine mw_sub [2, 1, 0] rfl ?_
      exact hself4 u2 (v2 + (1 : Int32))
noncomputable def x_X9_target (N : Nat) (p0 : Nat) (h : mH) : Option (Int32) :=
  x_X9_target_4 N p0 h N (0 : Int32) (0 : Int32)
set_option maxRecDepth 20000 in
set_option maxHeartbeats 4000000 in
theorem t_X9_target {g : mG} {l : Launch} (hg : mnn g = 101) (N : Nat) (p0 : Nat) (hp0 : mkn g p0 132) (h : mH) : mf g l 0 mX9_target (fun r : Int32 => (some (Value.int r), h)) [.ref (mad g p0)] h (x_X9_target N p0 h) := by
  refine mf_of (by decide) (Nat.le_of_ble_eq_true rfl) ?_
  show mw g l 0 mX9_target (fun r : Int32 => (some (Value.int r), h)) 0 [(0, .ref (mad g p0))] [] h _
  unfold x_X9_target
  refine mw_iconst (n := 1) (v := 0) dX9_target_0 rfl (by decide) ?_
  refine mw_istore_n (n := 2) dX9_target_1 rfl rfl (by decide) rfl ?_
  refine mw_iconst (n := 3) (v := 0) dX9_target_2 rfl (by decide) ?_
  refine mw_istore_n (n := 4) dX9_target_3 rfl rfl (by decide) rfl ?_
  refine mw_sub [2, 1, 0] rfl ?_
  exact b_X9_target_4 hg N p0 h hp0 N (0 : Int32) (0 : Int32)
noncomputable def x_X9_list_271 (N : Nat) (self68 : Int32 → mH → Option (mH)) (self95 : Int32 → mH → Option (mH)) (self128 : Int32 → mH → Option (mH)) (self161 : Int32 → mH → Option (mH)) (r1 : Nat) (v3 : Int32) (v4 : Int32) (v5 : Int32) (v6 : Int32) (v7 : Int32) (v8 : Int32) (v9 : Int32) (v10 : Int32) (v11 : Int32) (h : mH) : Option (mH) :=
  self161 (v11 + (1 : Int32)) h
set_option maxRecDepth 20000 in
set_option maxHeartbeats 4000000 in
theorem b_X9_list_271 {g : mG} {l : Launch} (hg : mnn g = 101) (N : Nat) (r1 : Nat) (v3 : Int32) (v4 : Int32) (v5 : Int32) (v6 : Int32) (v7 : Int32) (v8 : Int32) (v9 : Int32) (v10 : Int32) (v11 : Int32) (self68 : Int32 → mH → Option (mH)) (hself68 : ∀ (v5 : Int32) (h : mH), mw g l 2 mX9_list (fun r : mH => ((none : Option Value), r)) 68 [(0, .ref (mad g 82)), (1, .ref (mad g r1)), (3, .int v3), (4, .int v4), (5, .int v5)] [] h (self68 v5 h)) (self95 : Int32 → mH → Option (mH)) (hself95 : ∀ (v7 : Int32) (h : mH), mw g l 2 mX9_list (fun r : mH => ((none : Option Value), r)) 95 [(0, .ref (mad g 82)), (1, .ref (mad g r1)), (3, .int v3), (4, .int v4), (5, .int v5), (6, .int v6), (7, .int v7)] [] h (self95 v7 h)) (self128 : Int32 → mH → Option (mH)) (hself128 : ∀ (v9 : Int32) (h : mH), mw g l 2 mX9_list (fun r : mH => ((none : Option Value), r)) 128 [(0, .ref (mad g 82)), (1, .ref (mad g r1)), (3, .int v3), (4, .int v4), (5, .int v5), (6, .int v6), (7, .int v7), (8, .int v8), (9, .int v9)] [] h (self128 v9 h)) (self161 : Int32 → mH → Option (mH)) (hself161 : ∀ (v11 : Int32) (h : mH), mw g l 2 mX9_list (fun r : mH => ((none : Option Value), r)) 161 [(0, .ref (mad g 82)), (1, .ref (mad g r1)), (3, .int v3), (4, .int v4), (5, .int v5), (6, .int v6), (7, .int v7), (8, .int v8), (9, .int v9), (10, .int v10), (11, .int v11)] [] h (self161 v11 h)) (hr1 : mkn g r1 132) (h : mH) : mw g l 2 mX9_list (fun r : mH => ((none : Option Value), r)) 271 [(0, .ref (mad g 82)), (1, .ref (mad g r1)), (3, .int v3), (4, .int v4), (5, .int v5), (6, .int v6), (7, .int v7), (8, .int v8), (9, .int v9), (10, .int v10), (11, .int v11)] [] h (x_X9_list_271 N self68 self95 self128 self161 r1 v3 v4 v5 v6 v7 v8 v9 v10 v11 h) := by
  unfold x_X9_list_271
  refine mw_iinc (n := 274) (q := 10) (v := (v11 + (1 : Int32))) dX9_list_271 rfl rfl rfl (by decide) rfl ?_
  refine mw_goto (n := 161) dX9_list_274 (by decide) ?_
  refine mw_sub [1, 2, 3, 4, 5, 6, 7, 8, 9, 10, 0] rfl ?_
  exact hself161 (v11 + (1 : Int32)) h
noncomputable def x_X9_list_161 (N : Nat) (self68 : Int32 → mH → Option (mH)) (self95 : Int32 → mH → Option (mH)) (self128 : Int32 → mH → Option (mH)) (r1 : Nat) (v3 : Int32) (v4 : Int32) (v5 : Int32) (v6 : Int32) (v7 : Int32) (v8 : Int32) (v9 : Int32) (v10 : Int32) (f : Nat) : Int32 → mH → Option (mH) :=
  Nat.rec (motive := fun _ => Int32 → mH → Option (mH)) (fun _ _ => none) (fun _ self161 => fun v11 h => 
    if (mgi h 93 3) ≤ v11 then
      self128 (v9 + (1 : Int32)) h
    else
      mck ((30 : Int32) + v11) 40 <|
      (x_X9_packed N (mgi h 92 (((30 : Int32) + v11)).toNatClampNeg) v3).bind fun q2 =>
      if ¬ (v10 + q2) = v4 then
        x_X9_list_271 N self68 self95 self128 self161 r1 v3 v4 v5 v6 v7 v8 v9 v10 v11 h
      else
        mck v5 40 <|
        mck ((10 : Int32) + v7) 40 <|
        mck ((20 : Int32) + v9) 40 <|
        mlet (((((mgi h 92 (v5).toNatClampNeg) <<< (v3 &&& 31)) ||| (mgi h 92 (((10 : Int32) + v7)).toNatClampNeg)) <<< (v3 &&& 31)) ||| (mgi h 92 (((20 : Int32) + v9)).toNatClampNeg)) fun u4 =>
        mck ((30 : Int32) + v11) 40 <|
        mck (mgi h 82 17) 1000 <|
        mlet (msi h 94 ((mgi h 82 17)).toNatClampNeg (((u4 <<< (v3 &&& 31)) ||| (mgi h 92 (((30 : Int32) + v11)).toNatClampNeg)) >>> ((v3 * ((4 : Int32) - (mgi h r1 0))) &&& 31))) fun h5 =>
        mlet (msi h5 82 17 ((mgi h5 82 17) + (1 : Int32))) fun h6 =>
        x_X9_list_271 N self68 self95 self128 self161 r1 v3 v4 v5 v6 v7 v8 v9 v10 v11 h6) f
theorem x_X9_list_161_0 (N : Nat) (self68 : Int32 → mH → Option (mH)) (self95 : Int32 → mH → Option (mH)) (self128 : Int32 → mH → Option (mH)) (r1 : Nat) (v3 : Int32) (v4 : Int32) (v5 : Int32) (v6 : Int32) (v7 : Int32) (v8 : Int32) (v9 : Int32) (v10 : Int32) (v11 : Int32) (h : mH) : x_X9_list_161 N self68 self95 self128 r1 v3 v4 v5 v6 v7 v8 v9 v10 0 v11 h = none := rfl
theorem x_X9_list_161_s (N : Nat) (self68 : Int32 → mH → Option (mH)) (self95 : Int32 → mH → Option (mH)) (self128 : Int32 → mH → Option (mH)) (r1 : Nat) (v3 : Int32) (v4 : Int32) (v5 : Int32) (v6 : Int32) (v7 : Int32) (v8 : Int32) (v9 : Int32) (v10 : Int32) (f : Nat) (v11 : Int32) (h : mH) : x_X9_list_161 N self68 self95 self128 r1 v3 v4 v5 v6 v7 v8 v9 v10 (f + 1) v11 h = (
    if (mgi h 93 3) ≤ v11 then
      self128 (v9 + (1 : Int32)) h
    else
      mck ((30 : Int32) + v11) 40 <|
      (x_X9_packed N (mgi h 92 (((30 : Int32) + v11)).toNatClampNeg) v3).bind fun q2 =>
      if ¬ (v10 + q2) = v4 then
        x_X9_list_271 N self68 self95 self128 (x_X9_list_161 N self68 self95 self128 r1 v3 v4 v5 v6 v7 v8 v9 v10 f) r1 v3 v4 v5 v6 v7 v8 v9 v10 v11 h
      else
        mck v5 40 <|
        mck ((10 : Int32) + v7) 40 <|
        mck ((20 : Int32) + v9) 40 <|
        mlet (((((mgi h 92 (v5).toNatClampNeg) <<< (v3 &&& 31)) ||| (mgi h 92 (((10 : Int32) + v7)).toNatClampNeg)) <<< (v3 &&& 31)) ||| (mgi h 92 (((20 : Int32) + v9)).toNatClampNeg)) fun u4 =>
        mck ((30 : Int32) + v11) 40 <|
        mck (mgi h 82 17) 1000 <|
        mlet (msi h 94 ((mgi h 82 17)).toNatClampNeg (((u4 <<< (v3 &&& 31)) ||| (mgi h 92 (((30 : Int32) + v11)).toNatClampNeg)) >>> ((v3 * ((4 : Int32) - (mgi h r1 0))) &&& 31))) fun h5 =>
        mlet (msi h5 82 17 ((mgi h5 82 17) + (1 : Int32))) fun h6 =>
        x_X9_list_271 N self68 self95 self128 (x_X9_list_161 N self68 self95 self128 r1 v3 v4 v5 v6 v7 v8 v9 v10 f) r1 v3 v4 v5 v6 v7 v8 v9 v10 v11 h6) := rfl
set_option maxRecDepth 20000 in
set_option maxHeartbeats 4000000 in
theorem b_X9_list_161 {g : mG} {l : Launch} (hg : mnn g = 101) (N : Nat) (r1 : Nat) (v3 : Int32) (v4 : Int32) (v5 : Int32) (v6 : Int32) (v7 : Int32) (v8 : Int32) (v9 : Int32) (v10 : Int32) (self68 : Int32 → mH → Option (mH)) (hself68 : ∀ (v5 : Int32) (h : mH), mw g l 2 mX9_list (fun r : mH => ((none : Option Value), r)) 68 [(0, .ref (mad g 82)), (1, .ref (mad g r1)), (3, .int v3), (4, .int v4), (5, .int v5)] [] h (self68 v5 h)) (self95 : Int32 → mH → Option (mH)) (hself95 : ∀ (v7 : Int32) (h : mH), mw g l 2 mX9_list (fun r : mH => ((none : Option Value), r)) 95 [(0, .ref (mad g 82)), (1, .ref (mad g r1)), (3, .int v3), (4, .int v4), (5, .int v5), (6, .int v6), (7, .int v7)] [] h (self95 v7 h)) (self128 : Int32 → mH → Option (mH)) (hself128 : ∀ (v9 : Int32) (h : mH), mw g l 2 mX9_list (fun r : mH => ((none : Option Value), r)) 128 [(0, .ref (mad g 82)), (1, .ref (mad g r1)), (3, .int v3), (4, .int v4), (5, .int v5), (6, .int v6), (7, .int v7), (8, .int v8), (9, .int v9)] [] h (self128 v9 h)) (hr1 : mkn g r1 132) (f : Nat) : ∀ (v11 : Int32) (h : mH), mw g l 2 mX9_list (fun r : mH => ((none : Option Value), r)) 161 [(0, .ref (mad g 82)), (1, .ref (mad g r1)), (3, .int v3), (4, .int v4), (5, .int v5), (6, .int v6), (7, .int v7), (8, .int v8), (9, .int v9), (10, .int v10), (11, .int v11)] [] h (x_X9_list_161 N self68 self95 self128 r1 v3 v4 v5 v6 v7 v8 v9 v10 f v11 h) := by
  induction f with
  | zero => intros; exact mw_none
  | succ f hself161 =>
    intro v11 h
    refine mw_eq (x_X9_list_161_s N self68 self95 self128 r1 v3 v4 v5 v6 v7 v8 v9 v10 f v11 h) ?_
    generalize x_X9_list_161 N self68 self95 self128 r1 v3 v4 v5 v6 v7 v8 v9 v10 f = self161 at hself161 ⊢
    refine mw_iload (n := 163) (q := 10) dX9_list_161 rfl rfl ?_
    refine mw_aload_n (n := 164) (q := 0) dX9_list_163 rfl rfl rfl ?_
    refine mw_getr (n := 167) (a := 82) (k := 15) cl9 (mkm hg (by decide) (by rfl)) (by decide) rfl rfl fl_X9_41 dX9_list_164 rfl ?_
    refine mw_iconst (n := 168) (v := 3) dX9_list_167 rfl (by decide) ?_
    refine mw_iaLd (n := 169) (a := 93) (j := 3) (N := 4) (mkm hg (by decide) (by rfl)) (by decide) (by decide) dX9_list_168 rfl ?_
    refine mw_icmp_ge (n := 172) (t := 277) dX9_list_169 rfl (by decide) Iff.rfl (fun c1 => ?_) (fun c1 => ?_)
    · refine mw_iinc (n := 280) (q := 8) (v := (v9 + (1 : Int32))) dX9_list_277 rfl rfl rfl (by decide) rfl ?_
      refine mw_goto (n := 128) dX9_list_280 (by decide) ?_
      refine mw_sub [1, 2, 3, 4, 5, 6, 7, 8, 0] rfl ?_
      exact hself128 (v9 + (1 : Int32)) h
    · refine mw_iload (n := 174) (q := 9) dX9_list_172 rfl rfl ?_
      refine mw_aload_n (n := 175) (q := 0) dX9_list_174 rfl rfl rfl ?_
      refine mw_getr (n := 178) (a := 82) (k := 14) cl9 (mkm hg (by decide) (by rfl)) (by decide) rfl rfl fl_X9_38 dX9_list_175 rfl ?_
      refine mw_bipush (n := 180) (v := 30) dX9_list_178 rfl (by decide) ?_
      refine mw_iload (n := 182) (q := 10) dX9_list_180 rfl rfl ?_
      refine mw_iadd (n := 183) dX9_list_182 rfl ?_
      refine mw_iald (n := 184) (a := 92) (N := 40) (mkm hg (by decide) (by rfl)) dX9_list_183 rfl ?_
      refine mw_iload_n (n := 185) (q := 2) dX9_list_184 rfl rfl rfl ?_
      refine mw_callS (n := 188) (As := [.int (mgi h 92 (((30 : Int32) + v11)).toNatClampNeg), .int v3]) (t_X9_packed hg N (mgi h 92 (((30 : Int32) + v11)).toNatClampNeg) v3 h) (by decide) ok_X9_packed rfl lk_X9_118 sm_X9_packed dX9_list_185 rfl rfl (Nat.le_of_ble_eq_true rfl) (fun q2 _ => ?_)
      show mw g l _ _ _ 188 _ [.int q2, .int v10] h _
      refine mw_iadd (n := 189) dX9_list_188 rfl ?_
      refine mw_iload (n := 191) (q := 3) dX9_list_189 rfl rfl ?_
      refine mw_icmp_ne (n := 194) (t := 271) dX9_list_191 rfl (by decide) Iff.rfl (fun c3 => ?_) (fun c3 => ?_)
      · exact b_X9_list_271 hg N r1 v3 v4 v5 v6 v7 v8 v9 v10 v11 self68 hself68 self95 hself95 self128 hself128 self161 hself161 hr1 h
      · refine mw_aload_n (n := 195) (q := 0) dX9_list_194 rfl rfl rfl ?_
        refine mw_getr (n := 198) (a := 82) (k := 14) cl9 (mkm hg (by decide) (by rfl)) (by decide) rfl rfl fl_X9_38 dX9_list_195 rfl ?_
        refine mw_iload (n := 200) (q := 4) dX9_list_198 rfl rfl ?_
        refine mw_iald (n := 201) (a := 92) (N := 40) (mkm hg (by decide) (by rfl)) dX9_list_200 rfl ?_
        refine mw_iload_n (n := 202) (q := 2) dX9_list_201 rfl rfl rfl ?_
        refine mw_ishl (n := 203) dX9_list_202 rfl ?_
        refine mw_aload_n (n := 204) (q := 0) dX9_list_203 rfl rfl rfl ?_
        refine mw_getr (n := 207) (a := 82) (k := 14) cl9 (mkm hg (by decide) (by rfl)) (by decide) rfl rfl fl_X9_38 dX9_list_204 rfl ?_
        refine mw_bipush (n := 209) (v := 10) dX9_list_207 rfl (by decide) ?_
        refine mw_iload (n := 211) (q := 6) dX9_list_209 rfl rfl ?_
        refine mw_iadd (n := 212) dX9_list_211 rfl ?_
        refine mw_iald (n := 213) (a := 92) (N := 40) (mkm hg (by decide) (by rfl)) dX9_list_212 rfl ?_
        refine mw_ior (n := 214) dX9_list_213 rfl ?_
        refine mw_iload_n (n := 215) (q := 2) dX9_list_214 rfl rfl rfl ?_
        refine mw_ishl (n := 216) dX9_list_215 rfl ?_
        refine mw_aload_n (n := 217) (q := 0) dX9_list_216 rfl rfl rfl ?_
        refine mw_getr (n := 220) (a := 82) (k := 14) cl9 (mkm hg (by decide) (by rfl)) (by decide) rfl rfl fl_X9_38 dX9_list_217 rfl ?_
        refine mw_bipush (n := 222) (v := 20) dX9_list_220 rfl (by decide) ?_
        refine mw_iload (n := 224) (q := 8) dX9_list_222 rfl rfl ?_
        refine mw_iadd (n := 225) dX9_list_224 rfl ?_
        refine mw_iald (n := 226) (a := 92) (N := 40) (mkm hg (by decide) (by rfl)) dX9_list_225 rfl ?_
        refine mw_ior (n := 227) dX9_list_226 rfl ?_
        refine mw_letI (fun u4 => ?_)
        refine mw_istore (n := 229) dX9_list_227 rfl (by decide) rfl ?_
        refine mw_aload_n (n := 230) (q := 1) dX9_list_229 rfl rfl rfl ?_
        refine mw_getr (n := 233) (a := 82) (k := 16) cl9 (mkm hg (by decide) (by rfl)) (by decide) rfl rfl fl_X9_44 dX9_list_230 rfl ?_
        refine mw_aload_n (n := 234) (q := 1) dX9_list_233 rfl rfl rfl ?_
        refine mw_geti (n := 237) (a := 82) (k := 17) cl9 (mkm hg (by decide) (by rfl)) (by decide) rfl rfl fl_X9_112 dX9_list_234 rfl ?_
        refine mw_iload (n := 239) (q := 0) dX9_list_237 rfl rfl ?_
        refine mw_iload_n (n := 240) (q := 3) dX9_list_239 rfl rfl rfl ?_
        refine mw_ishl (n := 241) dX9_list_240 rfl ?_
        refine mw_aload_n (n := 242) (q := 1) dX9_list_241 rfl rfl rfl ?_
        refine mw_getr (n := 245) (a := 82) (k := 14) cl9 (mkm hg (by decide) (by rfl)) (by decide) rfl rfl fl_X9_38 dX9_list_242 rfl ?_
        refine mw_bipush (n := 247) (v := 30) dX9_list_245 rfl (by decide) ?_
        refine mw_iload (n := 249) (q := 11) dX9_list_247 rfl rfl ?_
        refine mw_iadd (n := 250) dX9_list_249 rfl ?_
        refine mw_iald (n := 251) (a := 92) (N := 40) (mkm hg (by decide) (by rfl)) dX9_list_250 rfl ?_
        refine mw_ior (n := 252) dX9_list_251 rfl ?_
        refine mw_iload_n (n := 253) (q := 3) dX9_list_252 rfl rfl rfl ?_
        refine mw_iconst (n := 254) (v := 4) dX9_list_253 rfl (by decide) ?_
        refine mw_aload_n (n := 255) (q := 2) dX9_list_254 rfl rfl rfl ?_
        refine mw_iconst (n := 256) (v := 0) dX9_list_255 rfl (by decide) ?_
        refine mw_iaLd (n := 257) (a := r1) (j := 0) (N := 32) hr1 (by decide) (by decide) dX9_list_256 rfl ?_
        refine mw_isub (n := 258) dX9_list_257 rfl ?_
        refine mw_imul (n := 259) dX9_list_258 rfl ?_
        refine mw_ishr (n := 260) dX9_list_259 rfl ?_
        refine mw_iast (n := 261) (a := 94) (N := 1000) (mkm hg (by decide) (by rfl)) dX9_list_260 rfl (mw_leth (fun h5 => ?_))
        refine mw_aload_n (n := 262) (q := 1) dX9_list_261 rfl rfl rfl ?_
        refine mw_dup (n := 263) dX9_list_262 rfl rfl ?_
        refine mw_geti (n := 266) (a := 82) (k := 17) cl9 (mkm hg (by decide) (by rfl)) (by decide) rfl rfl fl_X9_112 dX9_list_263 rfl ?_
        refine mw_iconst (n := 267) (v := 1) dX9_list_266 rfl (by decide) ?_
        refine mw_iadd (n := 268) dX9_list_267 rfl ?_
        refine mw_puti (n := 271) (a := 82) (k := 17) cl9 ct9 (mkm hg (by decide) (by rfl)) (by decide) rfl rfl rfl rfl fl_X9_112 dX9_list_268 rfl (mw_leth (fun h6 => ?_))
        refine mw_sub [1, 2, 3, 4, 5, 6, 7, 8, 9, 10, 11] rfl ?_
        exact b_X9_list_271 hg N r1 v3 v4 v5 v6 v7 v8 v9 v10 v11 self68 hself68 self95 hself95 self128 hself128 self161 hself161 hr1 h6
noncomputable def x_X9_list_128 (N : Nat) (self68 : Int32 → mH → Option (mH)) (self95 : Int32 → mH → Option (mH)) (r1 : Nat) (v3 : Int32) (v4 : Int32) (v5 : Int32) (v6 : Int32) (v7 : Int32) (v8 : Int32) (f : Nat) : Int32 → mH → Option (mH) :=
  Nat.rec (motive := fun _ => Int32 → mH → Option (mH)) (fun _ _ => none) (fun _ self128 => fun v9 h => 
    if (mgi h 93 2) ≤ v9 then
      self95 (v7 + (1 : Int32)) h
    else
      mck ((20 : Int32) + v9) 40 <|
      (x_X9_packed N (mgi h 92 (((20 : Int32) + v9)).toNatClampNeg) v3).bind fun q2 =>
      mlet (v8 + q2) fun u3 =>
      x_X9_list_161 N self68 self95 self128 r1 v3 v4 v5 v6 v7 v8 v9 u3 N (0 : Int32) h) f
theorem x_X9_list_128_0 (N : Nat) (self68 : Int32 → mH → Option (mH)) (self95 : Int32 → mH → Option (mH)) (r1 : Nat) (v3 : Int32) (v4 : Int32) (v5 : Int32) (v6 : Int32) (v7 : Int32) (v8 : Int32) (v9 : Int32) (h : mH) : x_X9_list_128 N self68 self95 r1 v3 v4 v5 v6 v7 v8 0 v9 h = none := rfl
theorem x_X9_list_128_s (N : Nat) (self68 : Int32 → mH → Option (mH)) (self95 : Int32 → mH → Option (mH)) (r1 : Nat) (v3 : Int32) (v4 : Int32) (v5 : Int32) (v6 : Int32) (v7 : Int32) (v8 : Int32) (f : Nat) (v9 : Int32) (h : mH) : x_X9_list_128 N self68 self95 r1 v3 v4 v5 v6 v7 v8 (f + 1) v9 h = (
    if (mgi h 93 2) ≤ v9 then
      self95 (v7 + (1 : Int32)) h
    else
      mck ((20 : Int32) + v9) 40 <|
      (x_X9_packed N (mgi h 92 (((20 : Int32) + v9)).toNatClampNeg) v3).bind fun q2 =>
      mlet (v8 + q2) fun u3 =>
      x_X9_list_161 N self68 self95 (x_X9_list_128 N self68 self95 r1 v3 v4 v5 v6 v7 v8 f) r1 v3 v4 v5 v6 v7 v8 v9 u3 N (0 : Int32) h) := rfl
set_option maxRecDepth 20000 in
set_option maxHeartbeats 4000000 in
theorem b_X9_list_128 {g : mG} {l : Launch} (hg : mnn g = 101) (N : Nat) (r1 : Nat) (v3 : Int32) (v4 : Int32) (v5 : Int32) (v6 : Int32) (v7 : Int32) (v8 : Int32) (self68 : Int32 → mH → Option (mH)) (hself68 : ∀ (v5 : Int32) (h : mH), mw g l 2 mX9_list (fun r : mH => ((none : Option Value), r)) 68 [(0, .ref (mad g 82)), (1, .ref (mad g r1)), (3, .int v3), (4, .int v4), (5, .int v5)] [] h (self68 v5 h)) (self95 : Int32 → mH → Option (mH)) (hself95 : ∀ (v7 : Int32) (h : mH), mw g l 2 mX9_list (fun r : mH => ((none : Option Value), r)) 95 [(0, .ref (mad g 82)), (1, .ref (mad g r1)), (3, .int v3), (4, .int v4), (5, .int v5), (6, .int v6), (7, .int v7)] [] h (self95 v7 h)) (hr1 : mkn g r1 132) (f : Nat) : ∀ (v9 : Int32) (h : mH), mw g l 2 mX9_list (fun r : mH => ((none : Option Value), r)) 128 [(0, .ref (mad g 82)), (1, .ref (mad g r1)), (3, .int v3), (4, .int v4), (5, .int v5), (6, .int v6), (7, .int v7), (8, .int v8), (9, .int v9)] [] h (x_X9_list_128 N self68 self95 r1 v3 v4 v5 v6 v7 v8 f v9 h) := by
  induction f with
  | zero => intros; exact mw_none
  | succ f hself128 =>
    intro v9 h
    refine mw_eq (x_X9_list_128_s N self68 self95 r1 v3 v4 v5 v6 v7 v8 f v9 h) ?_
    generalize x_X9_list_128 N self68 self95 r1 v3 v4 v5 v6 v7 v8 f = self128 at hself128 ⊢
    refine mw_iload (n := 130) (q := 8) dX9_list_128 rfl rfl ?_
    refine mw_aload_n (n := 131) (q := 0) dX9_list_130 rfl rfl rfl ?_
    refine mw_getr (n := 134) (a := 82) (k := 15) cl9 (mkm hg (by decide) (by rfl)) (by decide) rfl rfl fl_X9_41 dX9_list_131 rfl ?_
    refine mw_iconst (n := 135) (v := 2) dX9_list_134 rfl (by decide) ?_
    refine mw_iaLd (n := 136) (a := 93) (j := 2) (N := 4) (mkm hg (by decide) (by rfl)) (by decide) (by decide) dX9_list_135 rfl ?_
    refine mw_icmp_ge (n := 139) (t := 283) dX9_list_136 rfl (by decide) Iff.rfl (fun c1 => ?_) (fun c1 => ?_)
    · refine mw_iinc (n := 286) (q := 6) (v := (v7 + (1 : Int32))) dX9_list_283 rfl rfl rfl (by decide) rfl ?_
      refine mw_goto (n := 95) dX9_list_286 (by decide) ?_
      refine mw_sub [1, 2, 3, 4, 5, 6, 0] rfl ?_
      exact hself95 (v7 + (1 : Int32)) h
    · refine mw_iload (n := 141) (q := 7) dX9_list_139 rfl rfl ?_
      refine mw_aload_n (n := 142) (q := 0) dX9_list_141 rfl rfl rfl ?_
      refine mw_getr (n := 145) (a := 82) (k := 14) cl9 (mkm hg (by decide) (by rfl)) (by decide) rfl rfl fl_X9_38 dX9_list_142 rfl ?_
      refine mw_bipush (n := 147) (v := 20) dX9_list_145 rfl (by decide) ?_
      refine mw_iload (n := 149) (q := 8) dX9_list_147 rfl rfl ?_
      refine mw_iadd (n := 150) dX9_list_149 rfl ?_
      refine mw_iald (n := 151) (a := 92) (N := 40) (mkm hg (by decide) (by rfl)) dX9_list_150 rfl ?_
      refine mw_iload_n (n := 152) (q := 2) dX9_list_151 rfl rfl rfl ?_
      refine mw_callS (n := 155) (As := [.int (mgi h 92 (((20 : Int32) + v9)).toNatClampNeg), .int v3]) (t_X9_packed hg N (mgi h 92 (((20 : Int32) + v9)).toNatClampNeg) v3 h) (by decide) ok_X9_packed rfl lk_X9_118 sm_X9_packed dX9_list_152 rfl rfl (Nat.le_of_ble_eq_true rfl) (fun q2 _ => ?_)
      show mw g l _ _ _ 155 _ [.int q2, .int v8] h _
      refine mw_iadd (n := 156) dX9_list_155 rfl ?_
      refine mw_letI (fun u3 => ?_)
      refine mw_istore (n := 158) dX9_list_156 rfl (by decide) rfl ?_
      refine mw_iconst (n := 159) (v := 0) dX9_list_158 rfl (by decide) ?_
      refine mw_istore (n := 161) dX9_list_159 rfl (by decide) rfl ?_
      refine mw_sub [2, 3, 4, 5, 6, 7, 8, 9, 10, 1, 0] rfl ?_
      exact b_X9_list_161 hg N r1 v3 v4 v5 v6 v7 v8 v9 u3 self68 hself68 self95 hself95 self128 hself128 hr1 N (0 : Int32) h
noncomputable def x_X9_list_95 (N : Nat) (self68 : Int32 → mH → Option (mH)) (r1 : Nat) (v3 : Int32) (v4 : Int32) (v5 : Int32) (v6 : Int32) (f : Nat) : Int32 → mH → Option (mH) :=
  Nat.rec (motive := fun _ => Int32 → mH → Option (mH)) (fun _ _ => none) (fun _ self95 => fun v7 h => 
    if (mgi h 93 1) ≤ v7 then
      self68 (v5 + (1 : Int32)) h
    else
      mck ((10 : Int32) + v7) 40 <|
      (x_X9_packed N (mgi h 92 (((10 : Int32) + v7)).toNatClampNeg) v3).bind fun q2 =>
      mlet (v6 + q2) fun u3 =>
      x_X9_list_128 N self68 self95 r1 v3 v4 v5 v6 v7 u3 N (0 : Int32) h) f
theorem x_X9_list_95_0 (N : Nat) (self68 : Int32 → mH → Option (mH)) (r1 : Nat) (v3 : Int32) (v4 : Int32) (v5 : Int32) (v6 : Int32) (v7 : Int32) (h : mH) : x_X9_list_95 N self68 r1 v3 v4 v5 v6 0 v7 h = none := rfl
theorem x_X9_list_95_s (N : Nat) (self68 : Int32 → mH → Option (mH)) (r1 : Nat) (v3 : Int32) (v4 : Int32) (v5 : Int32) (v6 : Int32) (f : Nat) (v7 : Int32) (h : mH) : x_X9_list_95 N self68 r1 v3 v4 v5 v6 (f + 1) v7 h = (
    if (mgi h 93 1) ≤ v7 then
      self68 (v5 + (1 : Int32)) h
    else
      mck ((10 : Int32) + v7) 40 <|
      (x_X9_packed N (mgi h 92 (((10 : Int32) + v7)).toNatClampNeg) v3).bind fun q2 =>
      mlet (v6 + q2) fun u3 =>
      x_X9_list_128 N self68 (x_X9_list_95 N self68 r1 v3 v4 v5 v6 f) r1 v3 v4 v5 v6 v7 u3 N (0 : Int32) h) := rfl
set_option maxRecDepth 20000 in
set_option maxHeartbeats 4000000 in
theorem b_X9_list_95 {g : mG} {l : Launch} (hg : mnn g = 101) (N : Nat) (r1 : Nat) (v3 : Int32) (v4 : Int32) (v5 : Int32) (v6 : Int32) (self68 : Int32 → mH → Option (mH)) (hself68 : ∀ (v5 : Int32) (h : mH), mw g l 2 mX9_list (fun r : mH => ((none : Option Value), r)) 68 [(0, .ref (mad g 82)), (1, .ref (mad g r1)), (3, .int v3), (4, .int v4), (5, .int v5)] [] h (self68 v5 h)) (hr1 : mkn g r1 132) (f : Nat) : ∀ (v7 : Int32) (h : mH), mw g l 2 mX9_list (fun r : mH => ((none : Option Value), r)) 95 [(0, .ref (mad g 82)), (1, .ref (mad g r1)), (3, .int v3), (4, .int v4), (5, .int v5), (6, .int v6), (7, .int v7)] [] h (x_X9_list_95 N self68 r1 v3 v4 v5 v6 f v7 h) := by
  induction f with
  | zero => intros; exact mw_none
  | succ f hself95 =>
    intro v7 h
    refine mw_eq (x_X9_list_95_s N self68 r1 v3 v4 v5 v6 f v7 h) ?_
    generalize x_X9_list_95 N self68 r1 v3 v4 v5 v6 f = self95 at hself95 ⊢
    refine mw_iload (n := 97) (q := 6) dX9_list_95 rfl rfl ?_
    refine mw_aload_n (n := 98) (q := 0) dX9_list_97 rfl rfl rfl ?_
    refine mw_getr (n := 101) (a := 82) (k := 15) cl9 (mkm hg (by decide) (by rfl)) (by decide) rfl rfl fl_X9_41 dX9_list_98 rfl ?_
    refine mw_iconst (n := 102) (v := 1) dX9_list_101 rfl (by decide) ?_
    refine mw_iaLd (n := 103) (a := 93) (j := 1) (N := 4) (mkm hg (by decide) (by rfl)) (by decide) (by decide) dX9_list_102 rfl ?_
    refine mw_icmp_ge (n := 106) (t := 289) dX9_list_103 rfl (by decide) Iff.rfl (fun c1 => ?_) (fun c1 => ?_)
    · refine mw_iinc (n := 292) (q := 4) (v := (v5 + (1 : Int32))) dX9_list_289 rfl rfl rfl (by decide) rfl ?_
      refine mw_goto (n := 68) dX9_list_292 (by decide) ?_
      refine mw_sub [1, 2, 3, 4, 0] rfl ?_
      exact hself68 (v5 + (1 : Int32)) h
    · refine mw_iload (n := 108) (q := 5) dX9_list_106 rfl rfl ?_
      refine mw_aload_n (n := 109) (q := 0) dX9_list_108 rfl rfl rfl ?_
      refine mw_getr (n := 112) (a := 82) (k := 14) cl9 (mkm hg (by decide) (by rfl)) (by decide) rfl rfl fl_X9_38 dX9_list_109 rfl ?_
      refine mw_bipush (n := 114) (v := 10) dX9_list_112 rfl (by decide) ?_
      refine mw_iload (n := 116) (q := 6) dX9_list_114 rfl rfl ?_
      refine mw_iadd (n := 117) dX9_list_116 rfl ?_
      refine mw_iald (n := 118) (a := 92) (N := 40) (mkm hg (by decide) (by rfl)) dX9_list_117 rfl ?_
      refine mw_iload_n (n := 119) (q := 2) dX9_list_118 rfl rfl rfl ?_
      refine mw_callS (n := 122) (As := [.int (mgi h 92 (((10 : Int32) + v7)).toNatClampNeg), .int v3]) (t_X9_packed hg N (mgi h 92 (((10 : Int32) + v7)).toNatClampNeg) v3 h) (by decide) ok_X9_packed rfl lk_X9_118 sm_X9_packed dX9_list_119 rfl rfl (Nat.le_of_ble_eq_true rfl) (fun q2 _ => ?_)
      show mw g l _ _ _ 122 _ [.int q2, .int v6] h _
      refine mw_iadd (n := 123) dX9_list_122 rfl ?_
      refine mw_letI (fun u3 => ?_)
      refine mw_istore (n := 125) dX9_list_123 rfl (by decide) rfl ?_
      refine mw_iconst (n := 126) (v := 0) dX9_list_125 rfl (by decide) ?_
      refine mw_istore (n := 128) dX9_list_126 rfl (by decide) rfl ?_
      refine mw_sub [2, 3, 4, 5, 6, 7, 8, 1, 0] rfl ?_
      exact b_X9_list_128 hg N r1 v3 v4 v5 v6 v7 u3 self68 hself68 self95 hself95 hr1 N (0 : Int32) h
noncomputable def x_X9_list_68 (N : Nat) (r1 : Nat) (v3 : Int32) (v4 : Int32) (f : Nat) : Int32 → mH → Option (mH) :=
  Nat.rec (motive := fun _ => Int32 → mH → Option (mH)) (fun _ _ => none) (fun _ self68 => fun v5 h => 
    if (mgi h 93 0) ≤ v5 then
      some h
    else
      mck v5 40 <|
      (x_X9_packed N (mgi h 92 (v5).toNatClampNeg) v3).bind fun q2 =>
      x_X9_list_95 N self68 r1 v3 v4 v5 q2 N (0 : Int32) h) f
theorem x_X9_list_68_0 (N : Nat) (r1 : Nat) (v3 : Int32) (v4 : Int32) (v5 : Int32) (h : mH) : x_X9_list_68 N r1 v3 v4 0 v5 h = none := rfl
theorem x_X9_list_68_s (N : Nat) (r1 : Nat) (v3 : Int32) (v4 : Int32) (f : Nat) (v5 : Int32) (h : mH) : x_X9_list_68 N r1 v3 v4 (f + 1) v5 h = (
    if (mgi h 93 0) ≤ v5 then
      some h
    else
      mck v5 40 <|
      (x_X9_packed N (mgi h 92 (v5).toNatClampNeg) v3).bind fun q2 =>
      x_X9_list_95 N (x_X9_list_68 N r1 v3 v4 f) r1 v3 v4 v5 q2 N (0 : Int32) h) := rfl
set_option maxRecDepth 20000 in
set_option maxHeartbeats 4000000 in
theorem b_X9_list_68 {g : mG} {l : Launch} (hg : mnn g = 101) (N : Nat) (r1 : Nat) (v3 : Int32) (v4 : Int32) (hr1 : mkn g r1 132) (f : Nat) : ∀ (v5 : Int32) (h : mH), mw g l 2 mX9_list (fun r : mH => ((none : Option Value), r)) 68 [(0, .ref (mad g 82)), (1, .ref (mad g r1)), (3, .int v3), (4, .int v4), (5, .int v5)] [] h (x_X9_list_68 N r1 v3 v4 f v5 h) := by
  induction f with
  | zero => intros; exact mw_none
  | succ f hself68 =>
    intro v5 h
    refine mw_eq (x_X9_list_68_s N r1 v3 v4 f v5 h) ?_
    generalize x_X9_list_68 N r1 v3 v4 f = self68 at hself68 ⊢
    refine mw_iload (n := 70) (q := 4) dX9_list_68 rfl rfl ?_
    refine mw_aload_n (n := 71) (q := 0) dX9_list_70 rfl rfl rfl ?_
    refine mw_getr (n := 74) (a := 82) (k := 15) cl9 (mkm hg (by decide) (by rfl)) (by decide) rfl rfl fl_X9_41 dX9_list_71 rfl ?_
    refine mw_iconst (n := 75) (v := 0) dX9_list_74 rfl (by decide) ?_
    refine mw_iaLd (n := 76) (a := 93) (j := 0) (N := 4) (mkm hg (by decide) (by rfl)) (by decide) (by decide) dX9_list_75 rfl ?_
    refine mw_icmp_ge (n := 79) (t := 295) dX9_list_76 rfl (by decide) Iff.rfl (fun c1 => ?_) (fun c1 => ?_)
    · exact mw_vret dX9_list_295 rfl rfl
    · refine mw_aload_n (n := 80) (q := 0) dX9_list_79 rfl rfl rfl ?_
      refine mw_getr (n := 83) (a := 82) (k := 14) cl9 (mkm hg (by decide) (by rfl)) (by decide) rfl rfl fl_X9_38 dX9_list_80 rfl ?_
      refine mw_iload (n := 85) (q := 4) dX9_list_83 rfl rfl ?_
      refine mw_iald (n := 86) (a := 92) (N := 40) (mkm hg (by decide) (by rfl)) dX9_list_85 rfl ?_
      refine mw_iload_n (n := 87) (q := 2) dX9_list_86 rfl rfl rfl ?_
      refine mw_callS (n := 90) (As := [.int (mgi h 92 (v5).toNatClampNeg), .int v3]) (t_X9_packed hg N (mgi h 92 (v5).toNatClampNeg) v3 h) (by decide) ok_X9_packed rfl lk_X9_118 sm_X9_packed dX9_list_87 rfl rfl (Nat.le_of_ble_eq_true rfl) (fun q2 _ => ?_)
      show mw g l _ _ _ 90 _ [.int q2] h _
      refine mw_istore (n := 92) dX9_list_90 rfl (by decide) rfl ?_
      refine mw_iconst (n := 93) (v := 0) dX9_list_92 rfl (by decide) ?_
      refine mw_istore (n := 95) dX9_list_93 rfl (by decide) rfl ?_
      refine mw_sub [2, 3, 4, 5, 6, 1, 0] rfl ?_
      exact b_X9_list_95 hg N r1 v3 v4 v5 q2 self68 hself68 hr1 N (0 : Int32) h
noncomputable def x_X9_list_48 (N : Nat) (self7 : Int32 → mH → Option (mH)) (r1 : Nat) (v2 : Int32) (v3 : Int32) (v4 : Int32) (h : mH) : Option (mH) :=
  self7 (v4 + (1 : Int32)) h
set_option maxRecDepth 20000 in
set_option maxHeartbeats 4000000 in
theorem b_X9_list_48 {g : mG} {l : Launch} (hg : mnn g = 101) (N : Nat) (r1 : Nat) (v2 : Int32) (v3 : Int32) (v4 : Int32) (self7 : Int32 → mH → Option (mH)) (hself7 : ∀ (v4 : Int32) (h : mH), mw g l 2 mX9_list (fun r : mH => ((none : Option Value), r)) 7 [(0, .ref (mad g 82)), (1, .ref (mad g r1)), (2, .int v2), (3, .int v3), (4, .int v4)] [] h (self7 v4 h)) (hr1 : mkn g r1 132) (h : mH) : mw g l 2 mX9_list (fun r : mH => ((none : Option Value), r)) 48 [(0, .ref (mad g 82)), (1, .ref (mad g r1)), (2, .int v2), (3, .int v3), (4, .int v4)] [] h (x_X9_list_48 N self7 r1 v2 v3 v4 h) := by
  unfold x_X9_list_48
  refine mw_iinc (n := 51) (q := 4) (v := (v4 + (1 : Int32))) dX9_list_48 rfl rfl rfl (by decide) rfl ?_
  refine mw_goto (n := 7) dX9_list_51 (by decide) ?_
  refine mw_sub [1, 2, 3, 4, 0] rfl ?_
  exact hself7 (v4 + (1 : Int32)) h
noncomputable def x_X9_list_7 (N : Nat) (r1 : Nat) (v2 : Int32) (v3 : Int32) (f : Nat) : Int32 → mH → Option (mH) :=
  Nat.rec (motive := fun _ => Int32 → mH → Option (mH)) (fun _ _ => none) (fun _ self7 => fun v4 h => 
    if (4 : Int32) ≤ v4 then
      mlet (msi h 82 17 (0 : Int32)) fun h2 =>
      (x_X9_target N r1 h2).bind fun q3 =>
      x_X9_list_68 N r1 v3 q3 N (0 : Int32) h2
    else
      mck v4 4 <|
      mlet (msi h 93 (v4).toNatClampNeg (1 : Int32)) fun h4 =>
      mck ((10 : Int32) * v4) 40 <|
      mlet (msi h4 92 (((10 : Int32) * v4)).toNatClampNeg (0 : Int32)) fun h5 =>
      if (mgi h5 r1 0) ≤ v4 then
        x_X9_list_48 N self7 r1 v2 v3 v4 h5
      else
        (x_X9_findMasks N r1 v4 v2 h5).bind fun q7 =>
        x_X9_list_48 N self7 r1 v2 v3 v4 q7) f
theorem x_X9_list_7_0 (N : Nat) (r1 : Nat) (v2 : Int32) (v3 : Int32) (v4 : Int32) (h : mH) : x_X9_list_7 N r1 v2 v3 0 v4 h = none := rfl
theorem x_X9_list_7_s (N : Nat) (r1 : Nat) (v2 : Int32) (v3 : Int32) (f : Nat) (v4 : Int32) (h : mH) : x_X9_list_7 N r1 v2 v3 (f + 1) v4 h = (
    if (4 : Int32) ≤ v4 then
      mlet (msi h 82 17 (0 : Int32)) fun h2 =>
      (x_X9_target N r1 h2).bind fun q3 =>
      x_X9_list_68 N r1 v3 q3 N (0 : Int32) h2
    else
      mck v4 4 <|
      mlet (msi h 93 (v4).toNatClampNeg (1 : Int32)) fun h4 =>
      mck ((10 : Int32) * v4) 40 <|
      mlet (msi h4 92 (((10 : Int32) * v4)).toNatClampNeg (0 : Int32)) fun h5 =>
      if (mgi h5 r1 0) ≤ v4 then
        x_X9_list_48 N (x_X9_list_7 N r1 v2 v3 f) r1 v2 v3 v4 h5
      else
        (x_X9_findMasks N r1 v4 v2 h5).bind fun q7 =>
        x_X9_list_48 N (x_X9_list_7 N r1 v2 v3 f) r1 v2 v3 v4 q7) := rfl
set_option maxRecDepth 20000 in
set_option maxHeartbeats 4000000 in
theorem b_X9_list_7 {g : mG} {l : Launch} (hg : mnn g = 101) (N : Nat) (r1 : Nat) (v2 : Int32) (v3 : Int32) (hr1 : mkn g r1 132) (f : Nat) : ∀ (v4 : Int32) (h : mH), mw g l 2 mX9_list (fun r : mH => ((none : Option Value), r)) 7 [(0, .ref (mad g 82)), (1, .ref (mad g r1)), (2, .int v2), (3, .int v3), (4, .int v4)] [] h (x_X9_list_7 N r1 v2 v3 f v4 h) := by
  induction f with
  | zero => intros; exact mw_none
  | succ f hself7 =>
    intro v4 h
    refine mw_eq (x_X9_list_7_s N r1 v2 v3 f v4 h) ?_
    generalize x_X9_list_7 N r1 v2 v3 f = self7 at hself7 ⊢
    refine mw_iload (n := 9) (q := 4) dX9_list_7 rfl rfl ?_
    refine mw_iconst (n := 10) (v := 4) dX9_list_9 rfl (by decide) ?_
    refine mw_icmp_ge (n := 13) (t := 54) dX9_list_10 rfl (by decide) Iff.rfl (fun c1 => ?_) (fun c1 => ?_)
    · refine mw_aload_n (n := 55) (q := 0) dX9_list_54 rfl rfl rfl ?_
      refine mw_iconst (n := 56) (v := 0) dX9_list_55 rfl (by decide) ?_
      refine mw_puti (n := 59) (a := 82) (k := 17) cl9 ct9 (mkm hg (by decide) (by rfl)) (by decide) rfl rfl rfl rfl fl_X9_112 dX9_list_56 rfl (mw_leth (fun h2 => ?_))
      refine mw_aload_n (n := 60) (q := 1) dX9_list_59 rfl rfl rfl ?_
      refine mw_callS (n := 63) (As := [.ref (mad g r1)]) (t_X9_target hg N r1 hr1 h2) (by decide) ok_X9_target rfl lk_X9_115 sm_X9_target dX9_list_60 rfl rfl (Nat.le_of_ble_eq_true rfl) (fun q3 _ => ?_)
      show mw g l _ _ _ 63 _ [.int q3] h2 _
      refine mw_istore (n := 65) dX9_list_63 rfl (by decide) rfl ?_
      refine mw_iconst (n := 66) (v := 0) dX9_list_65 rfl (by decide) ?_
      refine mw_istore (n := 68) dX9_list_66 rfl (by decide) rfl ?_
      refine mw_sub [2, 3, 5, 1, 0] rfl ?_
      exact b_X9_list_68 hg N r1 v3 q3 hr1 N (0 : Int32) h2
    · refine mw_aload_n (n := 14) (q := 0) dX9_list_13 rfl rfl rfl ?_
      refine mw_getr (n := 17) (a := 82) (k := 15) cl9 (mkm hg (by decide) (by rfl)) (by decide) rfl rfl fl_X9_41 dX9_list_14 rfl ?_
      refine mw_iload (n := 19) (q := 4) dX9_list_17 rfl rfl ?_
      refine mw_iconst (n := 20) (v := 1) dX9_list_19 rfl (by decide) ?_
      refine mw_iast (n := 21) (a := 93) (N := 4) (mkm hg (by decide) (by rfl)) dX9_list_20 rfl (mw_leth (fun h4 => ?_))
      refine mw_aload_n (n := 22) (q := 0) dX9_list_21 rfl rfl rfl ?_
      refine mw_getr (n := 25) (a := 82) (k := 14) cl9 (mkm hg (by decide) (by rfl)) (by decide) rfl rfl fl_X9_38 dX9_list_22 rfl ?_
      refine mw_bipush (n := 27) (v := 10) dX9_list_25 rfl (by decide) ?_
      refine mw_iload (n := 29) (q := 4) dX9_list_27 rfl rfl ?_
      refine mw_imul (n := 30) dX9_list_29 rfl ?_
      refine mw_iconst (n := 31) (v := 0) dX9_list_30 rfl (by decide) ?_
      refine mw_iast (n := 32) (a := 92) (N := 40) (mkm hg (by decide) (by rfl)) dX9_list_31 rfl (mw_leth (fun h5 => ?_))
      refine mw_iload (n := 34) (q := 4) dX9_list_32 rfl rfl ?_
      refine mw_aload_n (n := 35) (q := 1) dX9_list_34 rfl rfl rfl ?_
      refine mw_iconst (n := 36) (v := 0) dX9_list_35 rfl (by decide) ?_
      refine mw_iaLd (n := 37) (a := r1) (j := 0) (N := 32) hr1 (by decide) (by decide) dX9_list_36 rfl ?_
      refine mw_icmp_ge (n := 40) (t := 48) dX9_list_37 rfl (by decide) Iff.rfl (fun c6 => ?_) (fun c6 => ?_)
      · exact b_X9_list_48 hg N r1 v2 v3 v4 self7 hself7 hr1 h5
      · refine mw_aload_n (n := 41) (q := 0) dX9_list_40 rfl rfl rfl ?_
        refine mw_aload_n (n := 42) (q := 1) dX9_list_41 rfl rfl rfl ?_
        refine mw_iload (n := 44) (q := 4) dX9_list_42 rfl rfl ?_
        refine mw_iload_n (n := 45) (q := 2) dX9_list_44 rfl rfl rfl ?_
        refine mw_callV (n := 48) (a := 82) (As := [.ref (mad g r1), .int v4, .int v2]) cl9 (mkm hg (by decide) (by rfl)) (t_X9_findMasks hg N r1 v4 v2 hr1 h5) (by decide) ok_X9_findMasks rfl rfl lk_X9_108 im_X9_findMasks se_X9_findMasks dX9_list_45 rfl rfl (Nat.le_of_ble_eq_true rfl) (fun q7 _ => ?_)
        show mw g l _ _ _ 48 _ [] q7 _
        exact b_X9_list_48 hg N r1 v2 v3 v4 self7 hself7 hr1 q7
noncomputable def x_X9_list (N : Nat) (p0 : Nat) (p1 : Int32) (h : mH) : Option (mH) :=
  mlet (mgi h p0 1) fun u1 =>
  x_X9_list_7 N p0 p1 u1 N (0 : Int32) h
set_option maxRecDepth 20000 in
set_option maxHeartbeats 4000000 in
theorem t_X9_list {g : mG} {l : Launch} (hg : mnn g = 101) (N : Nat) (p0 : Nat) (p1 : Int32) (hp0 : mkn g p0 132) (h : mH) : mf g l 2 mX9_list (fun r : mH => ((none : Option Value), r)) [.ref (mad g 82), .ref (mad g p0), .int p1] h (x_X9_list N p0 p1 h) := by
  refine mf_of (by decide) (Nat.le_of_ble_eq_true rfl) ?_
  show mw g l 2 mX9_list (fun r : mH => ((none : Option Value), r)) 0 [(0, .ref (mad g 82)), (1, .ref (mad g p0)), (2, .int p1)] [] h _
  unfold x_X9_list
  refine mw_aload_n (n := 1) (q := 1) dX9_list_0 rfl rfl rfl ?_
  refine mw_iconst (n := 2) (v := 1) dX9_list_1 rfl (by decide) ?_
  refine mw_iaLd (n := 3) (a := p0) (j := 1) (N := 32) hp0 (by decide) (by decide) dX9_list_2 rfl ?_
  refine mw_letI (fun u1 => ?_)
  refine mw_istore_n (n := 4) dX9_list_3 rfl rfl (by decide) rfl ?_
  refine mw_iconst (n := 5) (v := 0) dX9_list_4 rfl (by decide) ?_
  refine mw_istore (n := 7) dX9_list_5 rfl (by decide) rfl ?_
  refine mw_sub [2, 3, 4, 1, 0] rfl ?_
  exact b_X9_list_7 hg N p0 p1 u1 hp0 N (0 : Int32) h
noncomputable def x_X9_place_5 (N : Nat) (v1 : Int32) (h : mH) (f : Nat) : Int32 → Int32 → Option (Int32) :=
  Nat.rec (motive := fun _ => Int32 → Int32 → Option (Int32)) (fun _ _ => none) (fun _ self5 => fun v2 v3 => 
    if (mgi h 82 17) ≤ v3 then
      some v2
    else
      mck v3 1000 <|
      mlet (if ¬ (mgi h 94 (v3).toNatClampNeg) = v1 then v2 else v3) fun u3 =>
      self5 u3 (v3 + (1 : Int32))) f
theorem x_X9_place_5_0 (N : Nat) (v1 : Int32) (h : mH) (v2 : Int32) (v3 : Int32) : x_X9_place_5 N v1 h 0 v2 v3 = none := rfl
theorem x_X9_place_5_s (N : Nat) (v1 : Int32) (h : mH) (f : Nat) (v2 : Int32) (v3 : Int32) : x_X9_place_5 N v1 h (f + 1) v2 v3 = (
    if (mgi h 82 17) ≤ v3 then
      some v2
    else
      mck v3 1000 <|
      mlet (if ¬ (mgi h 94 (v3).toNatClampNeg) = v1 then v2 else v3) fun u3 =>
      (x_X9_place_5 N v1 h f) u3 (v3 + (1 : Int32))) := rfl
set_option maxRecDepth 20000 in
set_option maxHeartbeats 4000000 in
theorem b_X9_place_5 {g : mG} {l : Launch} (hg : mnn g = 101) (N : Nat) (v1 : Int32) (h : mH) (f : Nat) : ∀ (v2 : Int32) (v3 : Int32), mw g l 0 mX9_place (fun r : Int32 => (some (Value.int r), h)) 5 [(0, .ref (mad g 82)), (1, .int v1), (2, .int v2), (3, .int v3)] [] h (x_X9_place_5 N v1 h f v2 v3) := by
  induction f with
  | zero => intros; exact mw_none
  | succ f hself5 =>
    intro v2 v3
    refine mw_eq (x_X9_place_5_s N v1 h f v2 v3) ?_
    generalize x_X9_place_5 N v1 h f = self5 at hself5 ⊢
    refine mw_iload_n (n := 6) (q := 3) dX9_place_5 rfl rfl rfl ?_
    refine mw_aload_n (n := 7) (q := 0) dX9_place_6 rfl rfl rfl ?_
    refine mw_geti (n := 10) (a := 82) (k := 17) cl9 (mkm hg (by decide) (by rfl)) (by decide) rfl rfl fl_X9_112 dX9_place_7 rfl ?_
    refine mw_icmp_ge (n := 13) (t := 35) dX9_place_10 rfl (by decide) Iff.rfl (fun c1 => ?_) (fun c1 => ?_)
    · refine mw_iload_n (n := 36) (q := 2) dX9_place_35 rfl rfl rfl ?_
      exact mw_iret dX9_place_36 rfl rfl
    · refine mw_aload_n (n := 14) (q := 0) dX9_place_13 rfl rfl rfl ?_
      refine mw_getr (n := 17) (a := 82) (k := 16) cl9 (mkm hg (by decide) (by rfl)) (by decide) rfl rfl fl_X9_44 dX9_place_14 rfl ?_
      refine mw_iload_n (n := 18) (q := 3) dX9_place_17 rfl rfl rfl ?_
      refine mw_iald (n := 19) (a := 94) (N := 1000) (mkm hg (by decide) (by rfl)) dX9_place_18 rfl ?_
      refine mw_iload_n (n := 20) (q := 1) dX9_place_19 rfl rfl rfl ?_
      refine mw_cutJ (pc' := 28) (lv' := [(0, .ref (mad g 82)), (1, .int v1), (2, .int v2), (3, .int v3)]) (st' := [.int (if ¬ (mgi h 94 (v3).toNatClampNeg) = v1 then v2 else v3)]) (fun J => ?_) ?_
      · refine mw_icmp_ne_m (n := 23) (t := 27) dX9_place_20 rfl (by decide) (fun c2 => ?_) (fun c2 => ?_)
        · refine mw_iload_n (n := 28) (q := 2) dX9_place_27 rfl rfl rfl ?_
          exact mw_topeq (if_pos c2).symm J
        · refine mw_iload_n (n := 24) (q := 3) dX9_place_23 rfl rfl rfl ?_
          refine mw_goto (n := 28) dX9_place_24 (by decide) ?_
          exact mw_topeq (if_neg c2).symm J
      refine mw_letI (fun u3 => ?_)
      refine mw_istore_n (n := 29) dX9_place_28 rfl rfl (by decide) rfl ?_
      refine mw_iinc (n := 32) (q := 3) (v := (v3 + (1 : Int32))) dX9_place_29 rfl rfl rfl (by decide) rfl ?_
      refine mw_goto (n := 5) dX9_place_32 (by decide) ?_
      refine mw_sub [2, 3, 1, 0] rfl ?_
      exact hself5 u3 (v3 + (1 : Int32))
noncomputable def x_X9_place (N : Nat) (p0 : Int32) (h : mH) : Option (Int32) :=
  x_X9_place_5 N p0 h N (-9 : Int32) (0 : Int32)
set_option maxRecDepth 20000 in
set_option maxHeartbeats 4000000 in
theorem t_X9_place {g : mG} {l : Launch} (hg : mnn g = 101) (N : Nat) (p0 : Int32) (h : mH) : mf g l 0 mX9_place (fun r : Int32 => (some (Value.int r), h)) [.ref (mad g 82), .int p0] h (x_X9_place N p0 h) := by
  refine mf_of (by decide) (Nat.le_of_ble_eq_true rfl) ?_
  show mw g l 0 mX9_place (fun r : Int32 => (some (Value.int r), h)) 0 [(0, .ref (mad g 82)), (1, .int p0)] [] h _
  unfold x_X9_place
  refine mw_bipush (n := 2) (v := -9) dX9_place_0 rfl (by decide) ?_
  refine mw_istore_n (n := 3) dX9_place_2 rfl rfl (by decide) rfl ?_
  refine mw_iconst (n := 4) (v := 0) dX9_place_3 rfl (by decide) ?_
  refine mw_istore_n (n := 5) dX9_place_4 rfl rfl (by decide) rfl ?_
  refine mw_sub [2, 3, 1, 0] rfl ?_
  exact b_X9_place_5 hg N p0 h N (-9 : Int32) (0 : Int32)
noncomputable def x_X9_settle_28 (N : Nat) (r1 : Nat) (h : mH) : Option (mH) :=
  mlet (msi h r1 31 (if ¬ (mgi h 82 17) = 0 then (mgi h 94 0) else (-9 : Int32))) fun h2 =>
  some h2
set_option maxRecDepth 20000 in
set_option maxHeartbeats 4000000 in
theorem b_X9_settle_28 {g : mG} {l : Launch} (hg : mnn g = 101) (N : Nat) (r1 : Nat) (hr1 : mkn g r1 132) (h : mH) : mw g l 3 mX9_settle (fun r : mH => ((none : Option Value), r)) 28 [(0, .ref (mad g 82)), (1, .ref (mad g r1))] [] h (x_X9_settle_28 N r1 h) := by
  unfold x_X9_settle_28
  refine mw_aload_n (n := 29) (q := 1) dX9_settle_28 rfl rfl rfl ?_
  refine mw_bipush (n := 31) (v := 31) dX9_settle_29 rfl (by decide) ?_
  refine mw_aload_n (n := 32) (q := 0) dX9_settle_31 rfl rfl rfl ?_
  refine mw_geti (n := 35) (a := 82) (k := 17) cl9 (mkm hg (by decide) (by rfl)) (by decide) rfl rfl fl_X9_112 dX9_settle_32 rfl ?_
  refine mw_cutJ (pc' := 49) (lv' := [(0, .ref (mad g 82)), (1, .ref (mad g r1))]) (st' := [.int (if ¬ (mgi h 82 17) = 0 then (mgi h 94 0) else (-9 : Int32)), .int (31 : Int32), .ref (mad g r1)]) (fun J => ?_) ?_
  · refine mw_if_ne_m (n := 38) (t := 43) dX9_settle_35 rfl (by decide) (fun c1 => ?_) (fun c1 => ?_)
    · refine mw_aload_n (n := 44) (q := 0) dX9_settle_43 rfl rfl rfl ?_
      refine mw_getr (n := 47) (a := 82) (k := 16) cl9 (mkm hg (by decide) (by rfl)) (by decide) rfl rfl fl_X9_44 dX9_settle_44 rfl ?_
      refine mw_iconst (n := 48) (v := 0) dX9_settle_47 rfl (by decide) ?_
      refine mw_iaLd (n := 49) (a := 94) (j := 0) (N := 1000) (mkm hg (by decide) (by rfl)) (by decide) (by decide) dX9_settle_48 rfl ?_
      exact mw_topeq (if_pos c1).symm J
    · refine mw_bipush (n := 40) (v := -9) dX9_settle_38 rfl (by decide) ?_
      refine mw_goto (n := 49) dX9_settle_40 (by decide) ?_
      exact mw_topeq (if_neg c1).symm J
  refine mw_iaSt (n := 50) (a := r1) (j := 31) (N := 32) hr1 (by decide) (by decide) dX9_settle_49 rfl (mw_leth (fun h2 => ?_))
  exact mw_vret dX9_settle_50 rfl rfl
noncomputable def x_X9_settle (N : Nat) (p0 : Nat) (h : mH) : Option (mH) :=
  (x_X9_list N p0 (1 : Int32) h).bind fun q1 =>
  if (mgi q1 p0 31) = (-9 : Int32) then
    x_X9_settle_28 N p0 q1
  else
    (x_X9_place N (mgi q1 p0 31) q1).bind fun q3 =>
    if ¬ q3 = (-9 : Int32) then
      some q1
    else
      x_X9_settle_28 N p0 q1
set_option maxRecDepth 20000 in
set_option maxHeartbeats 4000000 in
theorem t_X9_settle {g : mG} {l : Launch} (hg : mnn g = 101) (N : Nat) (p0 : Nat) (hp0 : mkn g p0 132) (h : mH) : mf g l 3 mX9_settle (fun r : mH => ((none : Option Value), r)) [.ref (mad g 82), .ref (mad g p0)] h (x_X9_settle N p0 h) := by
  refine mf_of (by decide) (Nat.le_of_ble_eq_true rfl) ?_
  show mw g l 3 mX9_settle (fun r : mH => ((none : Option Value), r)) 0 [(0, .ref (mad g 82)), (1, .ref (mad g p0))] [] h _
  unfold x_X9_settle
  refine mw_aload_n (n := 1) (q := 0) dX9_settle_0 rfl rfl rfl ?_
  refine mw_aload_n (n := 2) (q := 1) dX9_settle_1 rfl rfl rfl ?_
  refine mw_iconst (n := 3) (v := 1) dX9_settle_2 rfl (by decide) ?_
  refine mw_callV (n := 6) (a := 82) (As := [.ref (mad g p0), .int (1 : Int32)]) cl9 (mkm hg (by decide) (by rfl)) (t_X9_list hg N p0 (1 : Int32) hp0 h) (by decide) ok_X9_list rfl rfl lk_X9_122 im_X9_list se_X9_list dX9_settle_3 rfl rfl (Nat.le_of_ble_eq_true rfl) (fun q1 _ => ?_)
  show mw g l _ _ _ 6 _ [] q1 _
  refine mw_aload_n (n := 7) (q := 1) dX9_settle_6 rfl rfl rfl ?_
  refine mw_bipush (n := 9) (v := 31) dX9_settle_7 rfl (by decide) ?_
  refine mw_iaLd (n := 10) (a := p0) (j := 31) (N := 32) hp0 (by decide) (by decide) dX9_settle_9 rfl ?_
  refine mw_bipush (n := 12) (v := -9) dX9_settle_10 rfl (by decide) ?_
  refine mw_icmp_eq (n := 15) (t := 28) dX9_settle_12 rfl (by decide) Iff.rfl (fun c2 => ?_) (fun c2 => ?_)
  · exact b_X9_settle_28 hg N p0 hp0 q1
  · refine mw_aload_n (n := 16) (q := 0) dX9_settle_15 rfl rfl rfl ?_
    refine mw_aload_n (n := 17) (q := 1) dX9_settle_16 rfl rfl rfl ?_
    refine mw_bipush (n := 19) (v := 31) dX9_settle_17 rfl (by decide) ?_
    refine mw_iaLd (n := 20) (a := p0) (j := 31) (N := 32) hp0 (by decide) (by decide) dX9_settle_19 rfl ?_
    refine mw_callV (n := 23) (a := 82) (As := [.int (mgi q1 p0 31)]) cl9 (mkm hg (by decide) (by rfl)) (t_X9_place hg N (mgi q1 p0 31) q1) (by decide) ok_X9_place rfl rfl lk_X9_126 im_X9_place se_X9_place dX9_settle_20 rfl rfl (Nat.le_of_ble_eq_true rfl) (fun q3 _ => ?_)
    show mw g l _ _ _ 23 _ [.int q3] q1 _
    refine mw_bipush (n := 25) (v := -9) dX9_settle_23 rfl (by decide) ?_
    refine mw_icmp_ne (n := 28) (t := 50) dX9_settle_25 rfl (by decide) Iff.rfl (fun c4 => ?_) (fun c4 => ?_)
    · exact mw_vret dX9_settle_50 rfl rfl
    · exact b_X9_settle_28 hg N p0 hp0 q1
noncomputable def x_X9_sheet (N : Nat) (h : mH) : Option (Int32 × mH) :=
  mlet (msi h 82 0 (0 : Int32)) fun h1 =>
  (x_X9_readSheet N h1).bind fun q2 =>
  if q2.1 = (-9 : Int32) then
    (x_X9_lay N 85 84 q2.2).bind fun q4 =>
    mlet (msi q4 85 31 (-9 : Int32)) fun h5 =>
    (x_X9_settle N 85 h5).bind fun q6 =>
    mlet (msi q6 82 7 (0 : Int32)) fun h7 =>
    mck (0 : Int32) 2 <|
    mlet (msi h7 89 ((0 : Int32)).toNatClampNeg (0 : Int32)) fun h8 =>
    mck (1 : Int32) 2 <|
    mlet (msi h8 89 ((1 : Int32)).toNatClampNeg (0 : Int32)) fun h9 =>
    some ((mgi h9 82 17), h9)
  else
    some ((-3 : Int32), q2.2)
set_option maxRecDepth 20000 in
set_option maxHeartbeats 4000000 in
theorem t_X9_sheet {g : mG} {l : Launch} (hg : mnn g = 101) (N : Nat) (h : mH) : mf g l 4 mX9_sheet (fun r : Int32 × mH => (some (Value.int r.1), r.2)) [.ref (mad g 82)] h (x_X9_sheet N h) := by
  refine mf_of (by decide) (Nat.le_of_ble_eq_true rfl) ?_
  show mw g l 4 mX9_sheet (fun r : Int32 × mH => (some (Value.int r.1), r.2)) 0 [(0, .ref (mad g 82))] [] h _
  unfold x_X9_sheet
  refine mw_aload_n (n := 1) (q := 0) dX9_sheet_0 rfl rfl rfl ?_
  refine mw_iconst (n := 2) (v := 0) dX9_sheet_1 rfl (by decide) ?_
  refine mw_puti (n := 5) (a := 82) (k := 0) cl9 ct9 (mkm hg (by decide) (by rfl)) (by decide) rfl rfl rfl rfl fl_X9_65 dX9_sheet_2 rfl (mw_leth (fun h1 => ?_))
  refine mw_aload_n (n := 6) (q := 0) dX9_sheet_5 rfl rfl rfl ?_
  refine mw_callV (n := 9) (a := 82) (As := []) cl9 (mkm hg (by decide) (by rfl)) (t_X9_readSheet hg N h1) (by decide) ok_X9_readSheet rfl rfl lk_X9_101 im_X9_readSheet se_X9_readSheet dX9_sheet_6 rfl rfl (Nat.le_of_ble_eq_true rfl) (fun q2 _ => ?_)
  show mw g l _ _ _ 9 _ [.int q2.1] q2.2 _
  refine mw_bipush (n := 11) (v := -9) dX9_sheet_9 rfl (by decide) ?_
  refine mw_icmp_eq (n := 14) (t := 17) dX9_sheet_11 rfl (by decide) Iff.rfl (fun c3 => ?_) (fun c3 => ?_)
  · refine mw_aload_n (n := 18) (q := 0) dX9_sheet_17 rfl rfl rfl ?_
    refine mw_getr (n := 21) (a := 82) (k := 4) cl9 (mkm hg (by decide) (by rfl)) (by decide) rfl rfl fl_X9_16 dX9_sheet_18 rfl ?_
    refine mw_aload_n (n := 22) (q := 0) dX9_sheet_21 rfl rfl rfl ?_
    refine mw_getr (n := 25) (a := 82) (k := 3) cl9 (mkm hg (by decide) (by rfl)) (by decide) rfl rfl fl_X9_13 dX9_sheet_22 rfl ?_
    refine mw_callS (n := 28) (As := [.ref (mad g 85), .ref (mad g 84)]) (t_X9_lay hg N 85 84 (mkm hg (by decide) (by rfl)) (mkm hg (by decide) (by rfl)) q2.2) (by decide) ok_X9_lay rfl lk_X9_129 sm_X9_lay dX9_sheet_25 rfl rfl (Nat.le_of_ble_eq_true rfl) (fun q4 _ => ?_)
    show mw g l _ _ _ 28 _ [] q4 _
    refine mw_aload_n (n := 29) (q := 0) dX9_sheet_28 rfl rfl rfl ?_
    refine mw_getr (n := 32) (a := 82) (k := 4) cl9 (mkm hg (by decide) (by rfl)) (by decide) rfl rfl fl_X9_16 dX9_sheet_29 rfl ?_
    refine mw_bipush (n := 34) (v := 31) dX9_sheet_32 rfl (by decide) ?_
    refine mw_bipush (n := 36) (v := -9) dX9_sheet_34 rfl (by decide) ?_
    refine mw_iaSt (n := 37) (a := 85) (j := 31) (N := 32) (mkm hg (by decide) (by rfl)) (by decide) (by decide) dX9_sheet_36 rfl (mw_leth (fun h5 => ?_))
    refine mw_aload_n (n := 38) (q := 0) dX9_sheet_37 rfl rfl rfl ?_
    refine mw_aload_n (n := 39) (q := 0) dX9_sheet_38 rfl rfl rfl ?_
    refine mw_getr (n := 42) (a := 82) (k := 4) cl9 (mkm hg (by decide) (by rfl)) (by decide) rfl rfl fl_X9_16 dX9_sheet_39 rfl ?_
    refine mw_callV (n := 45) (a := 82) (As := [.ref (mad g 85)]) cl9 (mkm hg (by decide) (by rfl)) (t_X9_settle hg N 85 (mkm hg (by decide) (by rfl)) h5) (by decide) ok_X9_settle rfl rfl lk_X9_133 im_X9_settle se_X9_settle dX9_sheet_42 rfl rfl (Nat.le_of_ble_eq_true rfl) (fun q6 _ => ?_)
    show mw g l _ _ _ 45 _ [] q6 _
    refine mw_aload_n (n := 46) (q := 0) dX9_sheet_45 rfl rfl rfl ?_
    refine mw_iconst (n := 47) (v := 0) dX9_sheet_46 rfl (by decide) ?_
    refine mw_puti (n := 50) (a := 82) (k := 7) cl9 ct9 (mkm hg (by decide) (by rfl)) (by decide) rfl rfl rfl rfl fl_X9_137 dX9_sheet_47 rfl (mw_leth (fun h7 => ?_))
    refine mw_aload_n (n := 51) (q := 0) dX9_sheet_50 rfl rfl rfl ?_
    refine mw_getr (n := 54) (a := 82) (k := 9) cl9 (mkm hg (by decide) (by rfl)) (by decide) rfl rfl fl_X9_28 dX9_sheet_51 rfl ?_
    refine mw_iconst (n := 55) (v := 0) dX9_sheet_54 rfl (by decide) ?_
    refine mw_iconst (n := 56) (v := 0) dX9_sheet_55 rfl (by decide) ?_
    refine mw_zast (n := 57) (a := 89) (mkm hg (by decide) (by rfl)) (by decide) dX9_sheet_56 rfl (mw_leth (fun h8 => ?_))
    refine mw_aload_n (n := 58) (q := 0) dX9_sheet_57 rfl rfl rfl ?_
    refine mw_getr (n := 61) (a := 82) (k := 9) cl9 (mkm hg (by decide) (by rfl)) (by decide) rfl rfl fl_X9_28 dX9_sheet_58 rfl ?_
    refine mw_iconst (n := 62) (v := 1) dX9_sheet_61 rfl (by decide) ?_
    refine mw_iconst (n := 63) (v := 0) dX9_sheet_62 rfl (by decide) ?_
    refine mw_zast (n := 64) (a := 89) (mkm hg (by decide) (by rfl)) (by decide) dX9_sheet_63 rfl (mw_leth (fun h9 => ?_))
    refine mw_aload_n (n := 65) (q := 0) dX9_sheet_64 rfl rfl rfl ?_
    refine mw_geti (n := 68) (a := 82) (k := 17) cl9 (mkm hg (by decide) (by rfl)) (by decide) rfl rfl fl_X9_112 dX9_sheet_65 rfl ?_
    exact mw_iret dX9_sheet_68 rfl rfl
  · refine mw_bipush (n := 16) (v := -3) dX9_sheet_14 rfl (by decide) ?_
    exact mw_iret dX9_sheet_16 rfl rfl
noncomputable def x_X9_noLine (p0 : Int32) (p1 : Int32) (h : mH) : Option (Int32) :=
  mck p0 32 <|
  (x_X9_in ((p1).toInt64) (0 : Int64) ((((mgi h 85 (p0).toNatClampNeg) - (1 : Int32))).toInt64)).bind fun q1 =>
  some (if ¬ q1 = 0 then (0 : Int32) else (1 : Int32))
set_option maxRecDepth 20000 in
set_option maxHeartbeats 4000000 in
theorem t_X9_noLine {g : mG} {l : Launch} (hg : mnn g = 101) (p0 : Int32) (p1 : Int32) (h : mH) : mf g l 1 mX9_noLine (fun r : Int32 => (some (Value.int r), h)) [.ref (mad g 82), .int p0, .int p1] h (x_X9_noLine p0 p1 h) := by
  refine mf_of (by decide) (Nat.le_of_ble_eq_true rfl) ?_
  show mw g l 1 mX9_noLine (fun r : Int32 => (some (Value.int r), h)) 0 [(0, .ref (mad g 82)), (1, .int p0), (2, .int p1)] [] h _
  unfold x_X9_noLine
  refine mw_iload_n (n := 1) (q := 2) dX9_noLine_0 rfl rfl rfl ?_
  refine mw_i2l (n := 2) dX9_noLine_1 rfl ?_
  refine mw_lconst (n := 3) (v := 0) dX9_noLine_2 rfl (by decide) ?_
  refine mw_aload_n (n := 4) (q := 0) dX9_noLine_3 rfl rfl rfl ?_
  refine mw_getr (n := 7) (a := 82) (k := 4) cl9 (mkm hg (by decide) (by rfl)) (by decide) rfl rfl fl_X9_16 dX9_noLine_4 rfl ?_
  refine mw_iload_n (n := 8) (q := 1) dX9_noLine_7 rfl rfl rfl ?_
  refine mw_iald (n := 9) (a := 85) (N := 32) (mkm hg (by decide) (by rfl)) dX9_noLine_8 rfl ?_
  refine mw_iconst (n := 10) (v := 1) dX9_noLine_9 rfl (by decide) ?_
  refine mw_isub (n := 11) dX9_noLine_10 rfl ?_
  refine mw_i2l (n := 12) dX9_noLine_11 rfl ?_
  refine mw_callS (n := 15) (As := [.long (p1).toInt64, .long (0 : Int64), .long (((mgi h 85 (p0).toNatClampNeg) - (1 : Int32))).toInt64]) (t_X9_in hg ((p1).toInt64) (0 : Int64) ((((mgi h 85 (p0).toNatClampNeg) - (1 : Int32))).toInt64) h) (by decide) ok_X9_in rfl lk_X9_77 sm_X9_in dX9_noLine_12 rfl rfl (Nat.le_of_ble_eq_true rfl) (fun q1 _ => ?_)
  show mw g l _ _ _ 15 _ [.int q1] h _
  refine mw_cutJ (pc' := 23) (lv' := [(0, .ref (mad g 82)), (1, .int p0), (2, .int p1)]) (st' := [.int (if ¬ q1 = 0 then (0 : Int32) else (1 : Int32))]) (fun J => ?_) ?_
  · refine mw_if_ne_m (n := 18) (t := 22) dX9_noLine_15 rfl (by decide) (fun c2 => ?_) (fun c2 => ?_)
    · refine mw_iconst (n := 23) (v := 0) dX9_noLine_22 rfl (by decide) ?_
      exact mw_topeq (if_pos c2).symm J
    · refine mw_iconst (n := 19) (v := 1) dX9_noLine_18 rfl (by decide) ?_
      refine mw_goto (n := 23) dX9_noLine_19 (by decide) ?_
      exact mw_topeq (if_neg c2).symm J
  exact mw_zret dX9_noLine_23 rfl (mz01 (Or.inl rfl) (Or.inr rfl)) rfl
noncomputable def x_X9_totalAt (p0 : Int32) (p1 : Int32) : Option (Int32) :=
  some (if ¬ p0 = 0 then ((6 : Int32) + p1) else ((2 : Int32) + p1))
set_option maxRecDepth 20000 in
set_option maxHeartbeats 4000000 in
theorem t_X9_totalAt {g : mG} {l : Launch} (hg : mnn g = 101) (p0 : Int32) (p1 : Int32) (h : mH) : mf g l 0 mX9_totalAt (fun r : Int32 => (some (Value.int r), h)) [.int p0, .int p1] h (x_X9_totalAt p0 p1) := by
  refine mf_of (by decide) (Nat.le_of_ble_eq_true rfl) ?_
  show mw g l 0 mX9_totalAt (fun r : Int32 => (some (Value.int r), h)) 0 [(0, .int p0), (1, .int p1)] [] h _
  unfold x_X9_totalAt
  refine mw_iload_n (n := 1) (q := 0) dX9_totalAt_0 rfl rfl rfl ?_
  refine mw_cutJ (pc' := 14) (lv' := [(0, .int p0), (1, .int p1)]) (st' := [.int (if ¬ p0 = 0 then ((6 : Int32) + p1) else ((2 : Int32) + p1))]) (fun J => ?_) ?_
  · refine mw_if_ne_m (n := 4) (t := 10) dX9_totalAt_1 rfl (by decide) (fun c1 => ?_) (fun c1 => ?_)
    · refine mw_bipush (n := 12) (v := 6) dX9_totalAt_10 rfl (by decide) ?_
      refine mw_iload_n (n := 13) (q := 1) dX9_totalAt_12 rfl rfl rfl ?_
      refine mw_iadd (n := 14) dX9_totalAt_13 rfl ?_
      exact mw_topeq (if_pos c1).symm J
    · refine mw_iconst (n := 5) (v := 2) dX9_totalAt_4 rfl (by decide) ?_
      refine mw_iload_n (n := 6) (q := 1) dX9_totalAt_5 rfl rfl rfl ?_
      refine mw_iadd (n := 7) dX9_totalAt_6 rfl ?_
      refine mw_goto (n := 14) dX9_totalAt_7 (by decide) ?_
      exact mw_topeq (if_neg c1).symm J
  exact mw_iret dX9_totalAt_14 rfl rfl
noncomputable def x_X9_total (p0 : Int32) (p1 : Int32) (h : mH) : Option (Int32 × mH) :=
  mlet (msi h 82 0 (0 : Int32)) fun h1 =>
  (x_X9_in ((p0).toInt64) (0 : Int64) (1 : Int64)).bind fun q2 =>
  if ¬ q2 = 0 then
    (x_X9_noLine p0 p1 h1).bind fun q4 =>
    if q4 = 0 then
      (x_X9_totalAt p0 p1).bind fun q6 =>
      mck q6 32 <|
      some ((mgi h1 85 (q6).toNatClampNeg), h1)
    else
      some ((-1 : Int32), h1)
  else
    some ((-2 : Int32), h1)
set_option maxRecDepth 20000 in
set_option maxHeartbeats 4000000 in
theorem t_X9_total {g : mG} {l : Launch} (hg : mnn g = 101) (p0 : Int32) (p1 : Int32) (h : mH) : mf g l 2 mX9_total (fun r : Int32 × mH => (some (Value.int r.1), r.2)) [.ref (mad g 82), .int p0, .int p1] h (x_X9_total p0 p1 h) := by
  refine mf_of (by decide) (Nat.le_of_ble_eq_true rfl) ?_
  show mw g l 2 mX9_total (fun r : Int32 × mH => (some (Value.int r.1), r.2)) 0 [(0, .ref (mad g 82)), (1, .int p0), (2, .int p1)] [] h _
  unfold x_X9_total
  refine mw_aload_n (n := 1) (q := 0) dX9_total_0 rfl rfl rfl ?_
  refine mw_iconst (n := 2) (v := 0) dX9_total_1 rfl (by decide) ?_
  refine mw_puti (n := 5) (a := 82) (k := 0) cl9 ct9 (mkm hg (by decide) (by rfl)) (by decide) rfl rfl rfl rfl fl_X9_65 dX9_total_2 rfl (mw_leth (fun h1 => ?_))
  refine mw_iload_n (n := 6) (q := 1) dX9_total_5 rfl rfl rfl ?_
  refine mw_i2l (n := 7) dX9_total_6 rfl ?_
  refine mw_lconst (n := 8) (v := 0) dX9_total_7 rfl (by decide) ?_
  refine mw_lconst (n := 9) (v := 1) dX9_total_8 rfl (by decide) ?_
  refine mw_callS (n := 12) (As := [.long (p0).toInt64, .long (0 : Int64), .long (1 : Int64)]) (t_X9_in hg ((p0).toInt64) (0 : Int64) (1 : Int64) h1) (by decide) ok_X9_in rfl lk_X9_77 sm_X9_in dX9_total_9 rfl rfl (Nat.le_of_ble_eq_true rfl) (fun q2 _ => ?_)
  show mw g l _ _ _ 12 _ [.int q2] h1 _
  refine mw_if_ne (n := 15) (t := 18) dX9_total_12 rfl (by decide) Iff.rfl (fun c3 => ?_) (fun c3 => ?_)
  · refine mw_aload_n (n := 19) (q := 0) dX9_total_18 rfl rfl rfl ?_
    refine mw_iload_n (n := 20) (q := 1) dX9_total_19 rfl rfl rfl ?_
    refine mw_iload_n (n := 21) (q := 2) dX9_total_20 rfl rfl rfl ?_
    refine mw_callV (n := 24) (a := 82) (As := [.int p0, .int p1]) cl9 (mkm hg (by decide) (by rfl)) (t_X9_noLine hg p0 p1 h1) (by decide) ok_X9_noLine rfl rfl lk_X9_140 im_X9_noLine se_X9_noLine dX9_total_21 rfl rfl (Nat.le_of_ble_eq_true rfl) (fun q4 _ => ?_)
    show mw g l _ _ _ 24 _ [.int q4] h1 _
    refine mw_if_eq (n := 27) (t := 31) dX9_total_24 rfl (by decide) Iff.rfl (fun c5 => ?_) (fun c5 => ?_)
    · refine mw_aload_n (n := 32) (q := 0) dX9_total_31 rfl rfl rfl ?_
      refine mw_getr (n := 35) (a := 82) (k := 4) cl9 (mkm hg (by decide) (by rfl)) (by decide) rfl rfl fl_X9_16 dX9_total_32 rfl ?_
      refine mw_iload_n (n := 36) (q := 1) dX9_total_35 rfl rfl rfl ?_
      refine mw_iload_n (n := 37) (q := 2) dX9_total_36 rfl rfl rfl ?_
      refine mw_callS (n := 40) (As := [.int p0, .int p1]) (t_X9_totalAt hg p0 p1 h1) (by decide) ok_X9_totalAt rfl lk_X9_143 sm_X9_totalAt dX9_total_37 rfl rfl (Nat.le_of_ble_eq_true rfl) (fun q6 _ => ?_)
      show mw g l _ _ _ 40 _ [.int q6, .ref (mad g 85)] h1 _
      refine mw_iald (n := 41) (a := 85) (N := 32) (mkm hg (by decide) (by rfl)) dX9_total_40 rfl ?_
      exact mw_iret dX9_total_41 rfl rfl
    · refine mw_iconst (n := 28) (v := -1) dX9_total_27 rfl (by decide) ?_
      refine mw_goto (n := 41) dX9_total_28 (by decide) ?_
      exact mw_iret dX9_total_41 rfl rfl
  · refine mw_bipush (n := 17) (v := -2) dX9_total_15 rfl (by decide) ?_
    exact mw_iret dX9_total_17 rfl rfl
noncomputable def x_X9_pin (p0 : Int32) (h : mH) : Option (Int32 × mH) :=
  mlet (msi h 82 0 (0 : Int32)) fun h1 =>
  (x_X9_noCell p0 h1).bind fun q2 =>
  if q2 = 0 then
    mck ((11 : Int32) + p0) 32 <|
    some ((mgi h1 85 (((11 : Int32) + p0)).toNatClampNeg), h1)
  else
    some ((-1 : Int32), h1)
set_option maxRecDepth 20000 in
set_option maxHeartbeats 4000000 in
theorem t_X9_pin {g : mG} {l : Launch} (hg : mnn g = 101) (p0 : Int32) (h : mH) : mf g l 2 mX9_pin (fun r : Int32 × mH => (some (Value.int r.1), r.2)) [.ref (mad g 82), .int p0] h (x_X9_pin p0 h) := by
  refine mf_of (by decide) (Nat.le_of_ble_eq_true rfl) ?_
  show mw g l 2 mX9_pin (fun r : Int32 × mH => (some (Value.int r.1), r.2)) 0 [(0, .ref (mad g 82)), (1, .int p0)] [] h _
  unfold x_X9_pin
  refine mw_aload_n (n := 1) (q := 0) dX9_pin_0 rfl rfl rfl ?_
  refine mw_iconst (n := 2) (v := 0) dX9_pin_1 rfl (by decide) ?_
  refine mw_puti (n := 5) (a := 82) (k := 0) cl9 ct9 (mkm hg (by decide) (by rfl)) (by decide) rfl rfl rfl rfl fl_X9_65 dX9_pin_2 rfl (mw_leth (fun h1 => ?_))
  refine mw_aload_n (n := 6) (q := 0) dX9_pin_5 rfl rfl rfl ?_
  refine mw_iload_n (n := 7) (q := 1) dX9_pin_6 rfl rfl rfl ?_
  refine mw_callV (n := 10) (a := 82) (As := [.int p0]) cl9 (mkm hg (by decide) (by rfl)) (t_X9_noCell hg p0 h1) (by decide) ok_X9_noCell rfl rfl lk_X9_146 im_X9_noCell se_X9_noCell dX9_pin_7 rfl rfl (Nat.le_of_ble_eq_true rfl) (fun q2 _ => ?_)
  show mw g l _ _ _ 10 _ [.int q2] h1 _
  refine mw_if_eq (n := 13) (t := 17) dX9_pin_10 rfl (by decide) Iff.rfl (fun c3 => ?_) (fun c3 => ?_)
  · refine mw_aload_n (n := 18) (q := 0) dX9_pin_17 rfl rfl rfl ?_
    refine mw_getr (n := 21) (a := 82) (k := 4) cl9 (mkm hg (by decide) (by rfl)) (by decide) rfl rfl fl_X9_16 dX9_pin_18 rfl ?_
    refine mw_bipush (n := 23) (v := 11) dX9_pin_21 rfl (by decide) ?_
    refine mw_iload_n (n := 24) (q := 1) dX9_pin_23 rfl rfl rfl ?_
    refine mw_iadd (n := 25) dX9_pin_24 rfl ?_
    refine mw_iald (n := 26) (a := 85) (N := 32) (mkm hg (by decide) (by rfl)) dX9_pin_25 rfl ?_
    exact mw_iret dX9_pin_26 rfl rfl
  · refine mw_iconst (n := 14) (v := -1) dX9_pin_13 rfl (by decide) ?_
    refine mw_goto (n := 26) dX9_pin_14 (by decide) ?_
    exact mw_iret dX9_pin_26 rfl rfl
noncomputable def x_X9_sum_5 (N : Nat) (r0 : Nat) (v1 : Int32) (v2 : Int32) (h : mH) (f : Nat) : Int32 → Int32 → Option (Int32) :=
  Nat.rec (motive := fun _ => Int32 → Int32 → Option (Int32)) (fun _ _ => none) (fun _ self5 => fun v3 v4 => 
    if v2 ≤ v4 then
      some v3
    else
      mck (v1 + v4) 32 <|
      mlet (v3 + (mgi h r0 ((v1 + v4)).toNatClampNeg)) fun u2 =>
      self5 u2 (v4 + (1 : Int32))) f
theorem x_X9_sum_5_0 (N : Nat) (r0 : Nat) (v1 : Int32) (v2 : Int32) (h : mH) (v3 : Int32) (v4 : Int32) : x_X9_sum_5 N r0 v1 v2 h 0 v3 v4 = none := rfl
theorem x_X9_sum_5_s (N : Nat) (r0 : Nat) (v1 : Int32) (v2 : Int32) (h : mH) (f : Nat) (v3 : Int32) (v4 : Int32) : x_X9_sum_5 N r0 v1 v2 h (f + 1) v3 v4 = (
    if v2 ≤ v4 then
      some v3
    else
      mck (v1 + v4) 32 <|
      mlet (v3 + (mgi h r0 ((v1 + v4)).toNatClampNeg)) fun u2 =>
      (x_X9_sum_5 N r0 v1 v2 h f) u2 (v4 + (1 : Int32))) := rfl
set_option maxRecDepth 20000 in
set_option maxHeartbeats 4000000 in
theorem b_X9_sum_5 {g : mG} {l : Launch} (hg : mnn g = 101) (N : Nat) (r0 : Nat) (v1 : Int32) (v2 : Int32) (h : mH) (hr0 : mkn g r0 132) (f : Nat) : ∀ (v3 : Int32) (v4 : Int32), mw g l 0 mX9_sum (fun r : Int32 => (some (Value.int r), h)) 5 [(0, .ref (mad g r0)), (1, .int v1), (2, .int v2), (3, .int v3), (4, .int v4)] [] h (x_X9_sum_5 N r0 v1 v2 h f v3 v4) := by
  induction f with
  | zero => intros; exact mw_none
  | succ f hself5 =>
    intro v3 v4
    refine mw_eq (x_X9_sum_5_s N r0 v1 v2 h f v3 v4) ?_
    generalize x_X9_sum_5 N r0 v1 v2 h f = self5 at hself5 ⊢
    refine mw_iload (n := 7) (q := 4) dX9_sum_5 rfl rfl ?_
    refine mw_iload_n (n := 8) (q := 2) dX9_sum_7 rfl rfl rfl ?_
    refine mw_icmp_ge (n := 11) (t := 26) dX9_sum_8 rfl (by decide) Iff.rfl (fun c1 => ?_) (fun c1 => ?_)
    · refine mw_iload_n (n := 27) (q := 3) dX9_sum_26 rfl rfl rfl ?_
      exact mw_iret dX9_sum_27 rfl rfl
    · refine mw_iload_n (n := 12) (q := 3) dX9_sum_11 rfl rfl rfl ?_
      refine mw_aload_n (n := 13) (q := 0) dX9_sum_12 rfl rfl rfl ?_
      refine mw_iload_n (n := 14) (q := 1) dX9_sum_13 rfl rfl rfl ?_
      refine mw_iload (n := 16) (q := 4) dX9_sum_14 rfl rfl ?_
      refine mw_iadd (n := 17) dX9_sum_16 rfl ?_
      refine mw_iald (n := 18) (a := r0) (N := 32) hr0 dX9_sum_17 rfl ?_
      refine mw_iadd (n := 19) dX9_sum_18 rfl ?_
      refine mw_letI (fun u2 => ?_)
      refine mw_istore_n (n := 20) dX9_sum_19 rfl rfl (by decide) rfl ?_
      refine mw_iinc (n := 23) (q := 4) (v := (v4 + (1 : Int32))) dX9_sum_20 rfl rfl rfl (by decide) rfl ?_
      refine mw_goto (n := 5) dX9_sum_23 (by decide) ?_
      refine mw_sub [2, 3, 4, 1, 0] rfl ?_
      exact hself5 u2 (v4 + (1 : Int32))
noncomputable def x_X9_sum (N : Nat) (p0 : Nat) (p1 : Int32) (p2 : Int32) (h : mH) : Option (Int32) :=
  x_X9_sum_5 N p0 p1 p2 h N (0 : Int32) (0 : Int32)
set_option maxRecDepth 20000 in
set_option maxHeartbeats 4000000 in
theorem t_X9_sum {g : mG} {l : Launch} (hg : mnn g = 101) (N : Nat) (p0 : Nat) (p1 : Int32) (p2 : Int32) (hp0 : mkn g p0 132) (h : mH) : mf g l 0 mX9_sum (fun r : Int32 => (some (Value.int r), h)) [.ref (mad g p0), .int p1, .int p2] h (x_X9_sum N p0 p1 p2 h) := by
  refine mf_of (by decide) (Nat.le_of_ble_eq_true rfl) ?_
  show mw g l 0 mX9_sum (fun r : Int32 => (some (Value.int r), h)) 0 [(0, .ref (mad g p0)), (1, .int p1), (2, .int p2)] [] h _
  unfold x_X9_sum
  refine mw_iconst (n := 1) (v := 0) dX9_sum_0 rfl (by decide) ?_
  refine mw_istore_n (n := 2) dX9_sum_1 rfl rfl (by decide) rfl ?_
  refine mw_iconst (n := 3) (v := 0) dX9_sum_2 rfl (by decide) ?_
  refine mw_istore (n := 5) dX9_sum_3 rfl (by decide) rfl ?_
  refine mw_sub [2, 3, 4, 1, 0] rfl ?_
  exact b_X9_sum_5 hg N p0 p1 p2 h hp0 N (0 : Int32) (0 : Int32)
noncomputable def x_X9_greatest_48 (N : Nat) (self4 : Int32 → Int32 → Option (Int32)) (self19 : Int32 → Int32 → Option (Int32)) (r0 : Nat) (v1 : Int32) (v2 : Int32) (v3 : Int32) (v5 : Int32) (s0 : Int32) (s1 : Int32) (h : mH) : Option (Int32) :=
  mlet (s1 + s0) fun u1 =>
  self19 u1 (v5 + (1 : Int32))
set_option maxRecDepth 20000 in
set_option maxHeartbeats 4000000 in
theorem b_X9_greatest_48 {g : mG} {l : Launch} (hg : mnn g = 101) (N : Nat) (r0 : Nat) (v1 : Int32) (v2 : Int32) (v3 : Int32) (v5 : Int32) (s0 : Int32) (s1 : Int32) (h : mH) (self4 : Int32 → Int32 → Option (Int32)) (hself4 : ∀ (v2 : Int32) (v3 : Int32), mw g l 1 mX9_greatest (fun r : Int32 => (some (Value.int r), h)) 4 [(0, .ref (mad g r0)), (1, .int v1), (2, .int v2), (3, .int v3)] [] h (self4 v2 v3)) (self19 : Int32 → Int32 → Option (Int32)) (hself19 : ∀ (v4 : Int32) (v5 : Int32), mw g l 1 mX9_greatest (fun r : Int32 => (some (Value.int r), h)) 19 [(0, .ref (mad g r0)), (1, .int v1), (2, .int v2), (3, .int v3), (4, .int v4), (5, .int v5)] [] h (self19 v4 v5)) (hr0 : mkn g r0 132) : mw g l 1 mX9_greatest (fun r : Int32 => (some (Value.int r), h)) 48 [(0, .ref (mad g r0)), (1, .int v1), (2, .int v2), (3, .int v3), (5, .int v5)] [.int s0, .int s1] h (x_X9_greatest_48 N self4 self19 r0 v1 v2 v3 v5 s0 s1 h) := by
  unfold x_X9_greatest_48
  refine mw_iadd (n := 49) dX9_greatest_48 rfl ?_
  refine mw_letI (fun u1 => ?_)
  refine mw_istore (n := 51) dX9_greatest_49 rfl (by decide) rfl ?_
  refine mw_iinc (n := 54) (q := 5) (v := (v5 + (1 : Int32))) dX9_greatest_51 rfl rfl rfl (by decide) rfl ?_
  refine mw_goto (n := 19) dX9_greatest_54 (by decide) ?_
  refine mw_sub [2, 3, 4, 5, 1, 0] rfl ?_
  exact hself19 u1 (v5 + (1 : Int32))
noncomputable def x_X9_greatest_19 (N : Nat) (self4 : Int32 → Int32 → Option (Int32)) (r0 : Nat) (v1 : Int32) (v2 : Int32) (v3 : Int32) (h : mH) (f : Nat) : Int32 → Int32 → Option (Int32) :=
  Nat.rec (motive := fun _ => Int32 → Int32 → Option (Int32)) (fun _ _ => none) (fun _ self19 => fun v4 v5 => 
    if (mgi h r0 0) ≤ v5 then
      (x_X9_ones N v3).bind fun q2 =>
      mlet (if ¬ q2 = v1 then v2 else (if v4 ≤ v2 then v2 else v4)) fun u5 =>
      self4 u5 (v3 + (1 : Int32))
    else
      (x_X9_has v3 v5).bind fun q6 =>
      if q6 = 0 then
        x_X9_greatest_48 N self4 self19 r0 v1 v2 v3 v5 (0 : Int32) v4 h
      else
        mck ((2 : Int32) + v5) 32 <|
        x_X9_greatest_48 N self4 self19 r0 v1 v2 v3 v5 (mgi h r0 (((2 : Int32) + v5)).toNatClampNeg) v4 h) f
theorem x_X9_greatest_19_0 (N : Nat) (self4 : Int32 → Int32 → Option (Int32)) (r0 : Nat) (v1 : Int32) (v2 : Int32) (v3 : Int32) (h : mH) (v4 : Int32) (v5 : Int32) : x_X9_greatest_19 N self4 r0 v1 v2 v3 h 0 v4 v5 = none := rfl
theorem x_X9_greatest_19_s (N : Nat) (self4 : Int32 → Int32 → Option (Int32)) (r0 : Nat) (v1 : Int32) (v2 : Int32) (v3 : Int32) (h : mH) (f : Nat) (v4 : Int32) (v5 : Int32) : x_X9_greatest_19 N self4 r0 v1 v2 v3 h (f + 1) v4 v5 = (
    if (mgi h r0 0) ≤ v5 then
      (x_X9_ones N v3).bind fun q2 =>
      mlet (if ¬ q2 = v1 then v2 else (if v4 ≤ v2 then v2 else v4)) fun u5 =>
      self4 u5 (v3 + (1 : Int32))
    else
      (x_X9_has v3 v5).bind fun q6 =>
      if q6 = 0 then
        x_X9_greatest_48 N self4 (x_X9_greatest_19 N self4 r0 v1 v2 v3 h f) r0 v1 v2 v3 v5 (0 : Int32) v4 h
      else
        mck ((2 : Int32) + v5) 32 <|
        x_X9_greatest_48 N self4 (x_X9_greatest_19 N self4 r0 v1 v2 v3 h f) r0 v1 v2 v3 v5 (mgi h r0 (((2 : Int32) + v5)).toNatClampNeg) v4 h) := rfl
set_option maxRecDepth 20000 in
set_option maxHeartbeats 4000000 in
theorem b_X9_greatest_19 {g : mG} {l : Launch} (hg : mnn g = 101) (N : Nat) (r0 : Nat) (v1 : Int32) (v2 : Int32) (v3 : Int32) (h : mH) (self4 : Int32 → Int32 → Option (Int32)) (hself4 : ∀ (v2 : Int32) (v3 : Int32), mw g l 1 mX9_greatest (fun r : Int32 => (some (Value.int r), h)) 4 [(0, .ref (mad g r0)), (1, .int v1), (2, .int v2), (3, .int v3)] [] h (self4 v2 v3)) (hr0 : mkn g r0 132) (f : Nat) : ∀ (v4 : Int32) (v5 : Int32), mw g l 1 mX9_greatest (fun r : Int32 => (some (Value.int r), h)) 19 [(0, .ref (mad g r0)), (1, .int v1), (2, .int v2), (3, .int v3), (4, .int v4), (5, .int v5)] [] h (x_X9_greatest_19 N self4 r0 v1 v2 v3 h f v4 v5) := by
  induction f with
  | zero => intros; exact mw_none
  | succ f hself19 =>
    intro v4 v5
    refine mw_eq (x_X9_greatest_19_s N self4 r0 v1 v2 v3 h f v4 v5) ?_
    generalize x_X9_greatest_19 N self4 r0 v1 v2 v3 h f = self19 at hself19 ⊢
    refine mw_iload (n := 21) (q := 5) dX9_greatest_19 rfl rfl ?_
    refine mw_aload_n (n := 22) (q := 0) dX9_greatest_21 rfl rfl rfl ?_
    refine mw_iconst (n := 23) (v := 0) dX9_greatest_22 rfl (by decide) ?_
    refine mw_iaLd (n := 24) (a := r0) (j := 0) (N := 32) hr0 (by decide) (by decide) dX9_greatest_23 rfl ?_
    refine mw_icmp_ge (n := 27) (t := 57) dX9_greatest_24 rfl (by decide) Iff.rfl (fun c1 => ?_) (fun c1 => ?_)
    · refine mw_iload_n (n := 58) (q := 3) dX9_greatest_57 rfl rfl rfl ?_
      refine mw_callS (n := 61) (As := [.int v3]) (t_X9_ones hg N v3 h) (by decide) ok_X9_ones rfl lk_X9_105 sm_X9_ones dX9_greatest_58 rfl rfl (Nat.le_of_ble_eq_true rfl) (fun q2 _ => ?_)
      show mw g l _ _ _ 61 _ [.int q2] h _
      refine mw_iload_n (n := 62) (q := 1) dX9_greatest_61 rfl rfl rfl ?_
      refine mw_cutJ (pc' := 77) (lv' := [(0, .ref (mad g r0)), (1, .int v1), (2, .int v2), (3, .int v3), (4, .int v4), (5, .int v5)]) (st' := [.int (if ¬ q2 = v1 then v2 else (if v4 ≤ v2 then v2 else v4))]) (fun J => ?_) ?_
      · refine mw_icmp_ne_m (n := 65) (t := 76) dX9_greatest_62 rfl (by decide) (fun c3 => ?_) (fun c3 => ?_)
        · refine mw_iload_n (n := 77) (q := 2) dX9_greatest_76 rfl rfl rfl ?_
          exact mw_topeq (if_pos c3).symm J
        · refine mw_iload (n := 67) (q := 4) dX9_greatest_65 rfl rfl ?_
          refine mw_iload_n (n := 68) (q := 2) dX9_greatest_67 rfl rfl rfl ?_
          refine mw_icmp_le_m (n := 71) (t := 76) dX9_greatest_68 rfl (by decide) (fun c4 => ?_) (fun c4 => ?_)
          · refine mw_iload_n (n := 77) (q := 2) dX9_greatest_76 rfl rfl rfl ?_
            exact mw_topeq ((if_neg c3).trans (if_pos c4)).symm J
          · refine mw_iload (n := 73) (q := 4) dX9_greatest_71 rfl rfl ?_
            refine mw_goto (n := 77) dX9_greatest_73 (by decide) ?_
            exact mw_topeq ((if_neg c3).trans (if_neg c4)).symm J
      refine mw_letI (fun u5 => ?_)
      refine mw_istore_n (n := 78) dX9_greatest_77 rfl rfl (by decide) rfl ?_
      refine mw_iinc (n := 81) (q := 3) (v := (v3 + (1 : Int32))) dX9_greatest_78 rfl rfl rfl (by decide) rfl ?_
      refine mw_goto (n := 4) dX9_greatest_81 (by decide) ?_
      refine mw_sub [2, 3, 1, 0] rfl ?_
      exact hself4 u5 (v3 + (1 : Int32))
    · refine mw_iload (n := 29) (q := 4) dX9_greatest_27 rfl rfl ?_
      refine mw_iload_n (n := 30) (q := 3) dX9_greatest_29 rfl rfl rfl ?_
      refine mw_iload (n := 32) (q := 5) dX9_greatest_30 rfl rfl ?_
      refine mw_callS (n := 35) (As := [.int v3, .int v5]) (t_X9_has hg v3 v5 h) (by decide) ok_X9_has rfl lk_X9_73 sm_X9_has dX9_greatest_32 rfl rfl (Nat.le_of_ble_eq_true rfl) (fun q6 _ => ?_)
      show mw g l _ _ _ 35 _ [.int q6, .int v4] h _
      refine mw_if_eq (n := 38) (t := 47) dX9_greatest_35 rfl (by decide) Iff.rfl (fun c7 => ?_) (fun c7 => ?_)
      · refine mw_iconst (n := 48) (v := 0) dX9_greatest_47 rfl (by decide) ?_
        refine mw_sub [0, 1, 2, 3, 5] rfl ?_
        exact b_X9_greatest_48 hg N r0 v1 v2 v3 v5 (0 : Int32) v4 h self4 hself4 self19 hself19 hr0
      · refine mw_aload_n (n := 39) (q := 0) dX9_greatest_38 rfl rfl rfl ?_
        refine mw_iconst (n := 40) (v := 2) dX9_greatest_39 rfl (by decide) ?_
        refine mw_iload (n := 42) (q := 5) dX9_greatest_40 rfl rfl ?_
        refine mw_iadd (n := 43) dX9_greatest_42 rfl ?_
        refine mw_iald (n := 44) (a := r0) (N := 32) hr0 dX9_greatest_43 rfl ?_
        refine mw_goto (n := 48) dX9_greatest_44 (by decide) ?_
        refine mw_sub [0, 1, 2, 3, 5] rfl ?_
        exact b_X9_greatest_48 hg N r0 v1 v2 v3 v5 (mgi h r0 (((2 : Int32) + v5)).toNatClampNeg) v4 h self4 hself4 self19 hself19 hr0
noncomputable def x_X9_greatest_4 (N : Nat) (r0 : Nat) (v1 : Int32) (h : mH) (f : Nat) : Int32 → Int32 → Option (Int32) :=
  Nat.rec (motive := fun _ => Int32 → Int32 → Option (Int32)) (fun _ _ => none) (fun _ self4 => fun v2 v3 => 
    if ((1 : Int32) <<< ((mgi h r0 0) &&& 31)) ≤ v3 then
      some v2
    else
      x_X9_greatest_19 N self4 r0 v1 v2 v3 h N (0 : Int32) (0 : Int32)) f
theorem x_X9_greatest_4_0 (N : Nat) (r0 : Nat) (v1 : Int32) (h : mH) (v2 : Int32) (v3 : Int32) : x_X9_greatest_4 N r0 v1 h 0 v2 v3 = none := rfl
theorem x_X9_greatest_4_s (N : Nat) (r0 : Nat) (v1 : Int32) (h : mH) (f : Nat) (v2 : Int32) (v3 : Int32) : x_X9_greatest_4 N r0 v1 h (f + 1) v2 v3 = (
    if ((1 : Int32) <<< ((mgi h r0 0) &&& 31)) ≤ v3 then
      some v2
    else
      x_X9_greatest_19 N (x_X9_greatest_4 N r0 v1 h f) r0 v1 v2 v3 h N (0 : Int32) (0 : Int32)) := rfl
set_option maxRecDepth 20000 in
set_option maxHeartbeats 4000000 in
theorem b_X9_greatest_4 {g : mG} {l : Launch} (hg : mnn g = 101) (N : Nat) (r0 : Nat) (v1 : Int32) (h : mH) (hr0 : mkn g r0 132) (f : Nat) : ∀ (v2 : Int32) (v3 : Int32), mw g l 1 mX9_greatest (fun r : Int32 => (some (Value.int r), h)) 4 [(0, .ref (mad g r0)), (1, .int v1), (2, .int v2), (3, .int v3)] [] h (x_X9_greatest_4 N r0 v1 h f v2 v3) := by
  induction f with
  | zero => intros; exact mw_none
  | succ f hself4 =>
    intro v2 v3
    refine mw_eq (x_X9_greatest_4_s N r0 v1 h f v2 v3) ?_
    generalize x_X9_greatest_4 N r0 v1 h f = self4 at hself4 ⊢
    refine mw_iload_n (n := 5) (q := 3) dX9_greatest_4 rfl rfl rfl ?_
    refine mw_iconst (n := 6) (v := 1) dX9_greatest_5 rfl (by decide) ?_
    refine mw_aload_n (n := 7) (q := 0) dX9_greatest_6 rfl rfl rfl ?_
    refine mw_iconst (n := 8) (v := 0) dX9_greatest_7 rfl (by decide) ?_
    refine mw_iaLd (n := 9) (a := r0) (j := 0) (N := 32) hr0 (by decide) (by decide) dX9_greatest_8 rfl ?_
    refine mw_ishl (n := 10) dX9_greatest_9 rfl ?_
    refine mw_icmp_ge (n := 13) (t := 84) dX9_greatest_10 rfl (by decide) Iff.rfl (fun c1 => ?_) (fun c1 => ?_)
    · refine mw_iload_n (n := 85) (q := 2) dX9_greatest_84 rfl rfl rfl ?_
      exact mw_iret dX9_greatest_85 rfl rfl
    · refine mw_iconst (n := 14) (v := 0) dX9_greatest_13 rfl (by decide) ?_
      refine mw_istore (n := 16) dX9_greatest_14 rfl (by decide) rfl ?_
      refine mw_iconst (n := 17) (v := 0) dX9_greatest_16 rfl (by decide) ?_
      refine mw_istore (n := 19) dX9_greatest_17 rfl (by decide) rfl ?_
      refine mw_sub [2, 3, 4, 5, 1, 0] rfl ?_
      exact b_X9_greatest_19 hg N r0 v1 v2 v3 h self4 hself4 hr0 N (0 : Int32) (0 : Int32)
noncomputable def x_X9_greatest (N : Nat) (p0 : Nat) (p1 : Int32) (h : mH) : Option (Int32) :=
  x_X9_greatest_4 N p0 p1 h N (0 : Int32) (0 : Int32)
set_option maxRecDepth 20000 in
set_option maxHeartbeats 4000000 in
theorem t_X9_greatest {g : mG} {l : Launch} (hg : mnn g = 101) (N : Nat) (p0 : Nat) (p1 : Int32) (hp0 : mkn g p0 132) (h : mH) : mf g l 1 mX9_greatest (fun r : Int32 => (some (Value.int r), h)) [.ref (mad g p0), .int p1] h (x_X9_greatest N p0 p1 h) := by
  refine mf_of (by decide) (Nat.le_of_ble_eq_true rfl) ?_
  show mw g l 1 mX9_greatest (fun r : Int32 => (some (Value.int r), h)) 0 [(0, .ref (mad g p0)), (1, .int p1)] [] h _
  unfold x_X9_greatest
  refine mw_iconst (n := 1) (v := 0) dX9_greatest_0 rfl (by decide) ?_
  refine mw_istore_n (n := 2) dX9_greatest_1 rfl rfl (by decide) rfl ?_
  refine mw_iconst (n := 3) (v := 0) dX9_greatest_2 rfl (by decide) ?_
  refine mw_istore_n (n := 4) dX9_greatest_3 rfl rfl (by decide) rfl ?_
  refine mw_sub [2, 3, 1, 0] rfl ?_
  exact b_X9_greatest_4 hg N p0 p1 h hp0 N (0 : Int32) (0 : Int32)
noncomputable def x_X9_tested_63 (N : Nat) (self24 : Int32 → Option (Int32)) (self35 : Int32 → Int32 → Option (Int32)) (r0 : Nat) (v1 : Int32) (v3 : Int32) (s0 : Int32) (s1 : Int32) (h : mH) : Option (Int32) :=
  mlet (s1 + s0) fun u1 =>
  self35 u1 (v3 + (1 : Int32))
set_option maxRecDepth 20000 in
set_option maxHeartbeats 4000000 in
theorem b_X9_tested_63 {g : mG} {l : Launch} (hg : mnn g = 101) (N : Nat) (r0 : Nat) (v1 : Int32) (v3 : Int32) (s0 : Int32) (s1 : Int32) (h : mH) (self24 : Int32 → Option (Int32)) (hself24 : ∀ (v1 : Int32), mw g l 2 mX9_tested (fun r : Int32 => (some (Value.int r), h)) 24 [(0, .ref (mad g r0)), (1, .int v1)] [] h (self24 v1)) (self35 : Int32 → Int32 → Option (Int32)) (hself35 : ∀ (v2 : Int32) (v3 : Int32), mw g l 2 mX9_tested (fun r : Int32 => (some (Value.int r), h)) 35 [(0, .ref (mad g r0)), (1, .int v1), (2, .int v2), (3, .int v3)] [] h (self35 v2 v3)) (hr0 : mkn g r0 132) : mw g l 2 mX9_tested (fun r : Int32 => (some (Value.int r), h)) 63 [(0, .ref (mad g r0)), (1, .int v1), (3, .int v3)] [.int s0, .int s1] h (x_X9_tested_63 N self24 self35 r0 v1 v3 s0 s1 h) := by
  unfold x_X9_tested_63
  refine mw_iadd (n := 64) dX9_tested_63 rfl ?_
  refine mw_letI (fun u1 => ?_)
  refine mw_istore_n (n := 65) dX9_tested_64 rfl rfl (by decide) rfl ?_
  refine mw_iinc (n := 68) (q := 3) (v := (v3 + (1 : Int32))) dX9_tested_65 rfl rfl rfl (by decide) rfl ?_
  refine mw_goto (n := 35) dX9_tested_68 (by decide) ?_
  refine mw_sub [2, 3, 1, 0] rfl ?_
  exact hself35 u1 (v3 + (1 : Int32))
noncomputable def x_X9_tested_35 (N : Nat) (self24 : Int32 → Option (Int32)) (r0 : Nat) (v1 : Int32) (h : mH) (f : Nat) : Int32 → Int32 → Option (Int32) :=
  Nat.rec (motive := fun _ => Int32 → Int32 → Option (Int32)) (fun _ _ => none) (fun _ self35 => fun v2 v3 => 
    if (mgi h r0 1) ≤ v3 then
      (x_X9_greatest N r0 v1 h).bind fun q2 =>
      if q2 ≤ v2 then
        self24 (v1 + (1 : Int32))
      else
        some v1
    else
      mck ((6 : Int32) + v3) 32 <|
      if v1 ≤ (mgi h r0 (((6 : Int32) + v3)).toNatClampNeg) then
        x_X9_tested_63 N self24 self35 r0 v1 v3 v1 v2 h
      else
        mck ((6 : Int32) + v3) 32 <|
        x_X9_tested_63 N self24 self35 r0 v1 v3 (mgi h r0 (((6 : Int32) + v3)).toNatClampNeg) v2 h) f
theorem x_X9_tested_35_0 (N : Nat) (self24 : Int32 → Option (Int32)) (r0 : Nat) (v1 : Int32) (h : mH) (v2 : Int32) (v3 : Int32) : x_X9_tested_35 N self24 r0 v1 h 0 v2 v3 = none := rfl
theorem x_X9_tested_35_s (N : Nat) (self24 : Int32 → Option (Int32)) (r0 : Nat) (v1 : Int32) (h : mH) (f : Nat) (v2 : Int32) (v3 : Int32) : x_X9_tested_35 N self24 r0 v1 h (f + 1) v2 v3 = (
    if (mgi h r0 1) ≤ v3 then
      (x_X9_greatest N r0 v1 h).bind fun q2 =>
      if q2 ≤ v2 then
        self24 (v1 + (1 : Int32))
      else
        some v1
    else
      mck ((6 : Int32) + v3) 32 <|
      if v1 ≤ (mgi h r0 (((6 : Int32) + v3)).toNatClampNeg) then
        x_X9_tested_63 N self24 (x_X9_tested_35 N self24 r0 v1 h f) r0 v1 v3 v1 v2 h
      else
        mck ((6 : Int32) + v3) 32 <|
        x_X9_tested_63 N self24 (x_X9_tested_35 N self24 r0 v1 h f) r0 v1 v3 (mgi h r0 (((6 : Int32) + v3)).toNatClampNeg) v2 h) := rfl
set_option maxRecDepth 20000 in
set_option maxHeartbeats 4000000 in
theorem b_X9_tested_35 {g : mG} {l : Launch} (hg : mnn g = 101) (N : Nat) (r0 : Nat) (v1 : Int32) (h : mH) (self24 : Int32 → Option (Int32)) (hself24 : ∀ (v1 : Int32), mw g l 2 mX9_tested (fun r : Int32 => (some (Value.int r), h)) 24 [(0, .ref (mad g r0)), (1, .int v1)] [] h (self24 v1)) (hr0 : mkn g r0 132) (f : Nat) : ∀ (v2 : Int32) (v3 : Int32), mw g l 2 mX9_tested (fun r : Int32 => (some (Value.int r), h)) 35 [(0, .ref (mad g r0)), (1, .int v1), (2, .int v2), (3, .int v3)] [] h (x_X9_tested_35 N self24 r0 v1 h f v2 v3) := by
  induction f with
  | zero => intros; exact mw_none
  | succ f hself35 =>
    intro v2 v3
    refine mw_eq (x_X9_tested_35_s N self24 r0 v1 h f v2 v3) ?_
    generalize x_X9_tested_35 N self24 r0 v1 h f = self35 at hself35 ⊢
    refine mw_iload_n (n := 36) (q := 3) dX9_tested_35 rfl rfl rfl ?_
    refine mw_aload_n (n := 37) (q := 0) dX9_tested_36 rfl rfl rfl ?_
    refine mw_iconst (n := 38) (v := 1) dX9_tested_37 rfl (by decide) ?_
    refine mw_iaLd (n := 39) (a := r0) (j := 1) (N := 32) hr0 (by decide) (by decide) dX9_tested_38 rfl ?_
    refine mw_icmp_ge (n := 42) (t := 71) dX9_tested_39 rfl (by decide) Iff.rfl (fun c1 => ?_) (fun c1 => ?_)
    · refine mw_aload_n (n := 72) (q := 0) dX9_tested_71 rfl rfl rfl ?_
      refine mw_iload_n (n := 73) (q := 1) dX9_tested_72 rfl rfl rfl ?_
      refine mw_callS (n := 76) (As := [.ref (mad g r0), .int v1]) (t_X9_greatest hg N r0 v1 hr0 h) (by decide) ok_X9_greatest rfl lk_X9_154 sm_X9_greatest dX9_tested_73 rfl rfl (Nat.le_of_ble_eq_true rfl) (fun q2 _ => ?_)
      show mw g l _ _ _ 76 _ [.int q2] h _
      refine mw_iload_n (n := 77) (q := 2) dX9_tested_76 rfl rfl rfl ?_
      refine mw_icmp_le (n := 80) (t := 82) dX9_tested_77 rfl (by decide) Iff.rfl (fun c3 => ?_) (fun c3 => ?_)
      · refine mw_iinc (n := 85) (q := 1) (v := (v1 + (1 : Int32))) dX9_tested_82 rfl rfl rfl (by decide) rfl ?_
        refine mw_goto (n := 24) dX9_tested_85 (by decide) ?_
        refine mw_sub [1, 0] rfl ?_
        exact hself24 (v1 + (1 : Int32))
      · refine mw_iload_n (n := 81) (q := 1) dX9_tested_80 rfl rfl rfl ?_
        exact mw_iret dX9_tested_81 rfl rfl
    · refine mw_iload_n (n := 43) (q := 2) dX9_tested_42 rfl rfl rfl ?_
      refine mw_aload_n (n := 44) (q := 0) dX9_tested_43 rfl rfl rfl ?_
      refine mw_bipush (n := 46) (v := 6) dX9_tested_44 rfl (by decide) ?_
      refine mw_iload_n (n := 47) (q := 3) dX9_tested_46 rfl rfl rfl ?_
      refine mw_iadd (n := 48) dX9_tested_47 rfl ?_
      refine mw_iald (n := 49) (a := r0) (N := 32) hr0 dX9_tested_48 rfl ?_
      refine mw_iload_n (n := 50) (q := 1) dX9_tested_49 rfl rfl rfl ?_
      refine mw_icmp_ge (n := 53) (t := 62) dX9_tested_50 rfl (by decide) Iff.rfl (fun c4 => ?_) (fun c4 => ?_)
      · refine mw_iload_n (n := 63) (q := 1) dX9_tested_62 rfl rfl rfl ?_
        refine mw_sub [0, 1, 3] rfl ?_
        exact b_X9_tested_63 hg N r0 v1 v3 v1 v2 h self24 hself24 self35 hself35 hr0
      · refine mw_aload_n (n := 54) (q := 0) dX9_tested_53 rfl rfl rfl ?_
        refine mw_bipush (n := 56) (v := 6) dX9_tested_54 rfl (by decide) ?_
        refine mw_iload_n (n := 57) (q := 3) dX9_tested_56 rfl rfl rfl ?_
        refine mw_iadd (n := 58) dX9_tested_57 rfl ?_
        refine mw_iald (n := 59) (a := r0) (N := 32) hr0 dX9_tested_58 rfl ?_
        refine mw_goto (n := 63) dX9_tested_59 (by decide) ?_
        refine mw_sub [0, 1, 3] rfl ?_
        exact b_X9_tested_63 hg N r0 v1 v3 (mgi h r0 (((6 : Int32) + v3)).toNatClampNeg) v2 h self24 hself24 self35 hself35 hr0
noncomputable def x_X9_tested_24 (N : Nat) (r0 : Nat) (h : mH) (f : Nat) : Int32 → Option (Int32) :=
  Nat.rec (motive := fun _ => Int32 → Option (Int32)) (fun _ => none) (fun _ self24 => fun v1 => 
    if (mgi h r0 0) < v1 then
      some (-9 : Int32)
    else
      x_X9_tested_35 N self24 r0 v1 h N (0 : Int32) (0 : Int32)) f
theorem x_X9_tested_24_0 (N : Nat) (r0 : Nat) (h : mH) (v1 : Int32) : x_X9_tested_24 N r0 h 0 v1 = none := rfl
theorem x_X9_tested_24_s (N : Nat) (r0 : Nat) (h : mH) (f : Nat) (v1 : Int32) : x_X9_tested_24 N r0 h (f + 1) v1 = (
    if (mgi h r0 0) < v1 then
      some (-9 : Int32)
    else
      x_X9_tested_35 N (x_X9_tested_24 N r0 h f) r0 v1 h N (0 : Int32) (0 : Int32)) := rfl
set_option maxRecDepth 20000 in
set_option maxHeartbeats 4000000 in
theorem b_X9_tested_24 {g : mG} {l : Launch} (hg : mnn g = 101) (N : Nat) (r0 : Nat) (h : mH) (hr0 : mkn g r0 132) (f : Nat) : ∀ (v1 : Int32), mw g l 2 mX9_tested (fun r : Int32 => (some (Value.int r), h)) 24 [(0, .ref (mad g r0)), (1, .int v1)] [] h (x_X9_tested_24 N r0 h f v1) := by
  induction f with
  | zero => intros; exact mw_none
  | succ f hself24 =>
    intro v1
    refine mw_eq (x_X9_tested_24_s N r0 h f v1) ?_
    generalize x_X9_tested_24 N r0 h f = self24 at hself24 ⊢
    refine mw_iload_n (n := 25) (q := 1) dX9_tested_24 rfl rfl rfl ?_
    refine mw_aload_n (n := 26) (q := 0) dX9_tested_25 rfl rfl rfl ?_
    refine mw_iconst (n := 27) (v := 0) dX9_tested_26 rfl (by decide) ?_
    refine mw_iaLd (n := 28) (a := r0) (j := 0) (N := 32) hr0 (by decide) (by decide) dX9_tested_27 rfl ?_
    refine mw_icmp_gt (n := 31) (t := 88) dX9_tested_28 rfl (by decide) Iff.rfl (fun c1 => ?_) (fun c1 => ?_)
    · refine mw_bipush (n := 90) (v := -9) dX9_tested_88 rfl (by decide) ?_
      exact mw_iret dX9_tested_90 rfl rfl
    · refine mw_iconst (n := 32) (v := 0) dX9_tested_31 rfl (by decide) ?_
      refine mw_istore_n (n := 33) dX9_tested_32 rfl rfl (by decide) rfl ?_
      refine mw_iconst (n := 34) (v := 0) dX9_tested_33 rfl (by decide) ?_
      refine mw_istore_n (n := 35) dX9_tested_34 rfl rfl (by decide) rfl ?_
      refine mw_sub [2, 3, 1, 0] rfl ?_
      exact b_X9_tested_35 hg N r0 v1 h self24 hself24 hr0 N (0 : Int32) (0 : Int32)
noncomputable def x_X9_tested (N : Nat) (p0 : Nat) (h : mH) : Option (Int32) :=
  (x_X9_sum N p0 (2 : Int32) (mgi h p0 0) h).bind fun q1 =>
  (x_X9_sum N p0 (6 : Int32) (mgi h p0 1) h).bind fun q2 =>
  if q1 = q2 then
    x_X9_tested_24 N p0 h N (1 : Int32)
  else
    some (0 : Int32)
set_option maxRecDepth 20000 in
set_option maxHeartbeats 4000000 in
theorem t_X9_tested {g : mG} {l : Launch} (hg : mnn g = 101) (N : Nat) (p0 : Nat) (hp0 : mkn g p0 132) (h : mH) : mf g l 2 mX9_tested (fun r : Int32 => (some (Value.int r), h)) [.ref (mad g p0)] h (x_X9_tested N p0 h) := by
  refine mf_of (by decide) (Nat.le_of_ble_eq_true rfl) ?_
  show mw g l 2 mX9_tested (fun r : Int32 => (some (Value.int r), h)) 0 [(0, .ref (mad g p0))] [] h _
  unfold x_X9_tested
  refine mw_aload_n (n := 1) (q := 0) dX9_tested_0 rfl rfl rfl ?_
  refine mw_iconst (n := 2) (v := 2) dX9_tested_1 rfl (by decide) ?_
  refine mw_aload_n (n := 3) (q := 0) dX9_tested_2 rfl rfl rfl ?_
  refine mw_iconst (n := 4) (v := 0) dX9_tested_3 rfl (by decide) ?_
  refine mw_iaLd (n := 5) (a := p0) (j := 0) (N := 32) hp0 (by decide) (by decide) dX9_tested_4 rfl ?_
  refine mw_callS (n := 8) (As := [.ref (mad g p0), .int (2 : Int32), .int (mgi h p0 0)]) (t_X9_sum hg N p0 (2 : Int32) (mgi h p0 0) hp0 h) (by decide) ok_X9_sum rfl lk_X9_150 sm_X9_sum dX9_tested_5 rfl rfl (Nat.le_of_ble_eq_true rfl) (fun q1 _ => ?_)
  show mw g l _ _ _ 8 _ [.int q1] h _
  refine mw_aload_n (n := 9) (q := 0) dX9_tested_8 rfl rfl rfl ?_
  refine mw_bipush (n := 11) (v := 6) dX9_tested_9 rfl (by decide) ?_
  refine mw_aload_n (n := 12) (q := 0) dX9_tested_11 rfl rfl rfl ?_
  refine mw_iconst (n := 13) (v := 1) dX9_tested_12 rfl (by decide) ?_
  refine mw_iaLd (n := 14) (a := p0) (j := 1) (N := 32) hp0 (by decide) (by decide) dX9_tested_13 rfl ?_
  refine mw_callS (n := 17) (As := [.ref (mad g p0), .int (6 : Int32), .int (mgi h p0 1)]) (t_X9_sum hg N p0 (6 : Int32) (mgi h p0 1) hp0 h) (by decide) ok_X9_sum rfl lk_X9_150 sm_X9_sum dX9_tested_14 rfl rfl (Nat.le_of_ble_eq_true rfl) (fun q2 _ => ?_)
  show mw g l _ _ _ 17 _ [.int q2, .int q1] h _
  refine mw_icmp_eq (n := 20) (t := 22) dX9_tested_17 rfl (by decide) Iff.rfl (fun c3 => ?_) (fun c3 => ?_)
  · refine mw_iconst (n := 23) (v := 1) dX9_tested_22 rfl (by decide) ?_
    refine mw_istore_n (n := 24) dX9_tested_23 rfl rfl (by decide) rfl ?_
    refine mw_sub [1, 0] rfl ?_
    exact b_X9_tested_24 hg N p0 h hp0 N (1 : Int32)
  · refine mw_iconst (n := 21) (v := 0) dX9_tested_20 rfl (by decide) ?_
    exact mw_iret dX9_tested_21 rfl rfl
noncomputable def x_X9_test (N : Nat) (h : mH) : Option (Int32 × mH) :=
  mlet (msi h 82 0 (0 : Int32)) fun h1 =>
  (x_X9_tested N 85 h1).bind fun q2 =>
  some (q2, h1)
set_option maxRecDepth 20000 in
set_option maxHeartbeats 4000000 in
theorem t_X9_test {g : mG} {l : Launch} (hg : mnn g = 101) (N : Nat) (h : mH) : mf g l 3 mX9_test (fun r : Int32 × mH => (some (Value.int r.1), r.2)) [.ref (mad g 82)] h (x_X9_test N h) := by
  refine mf_of (by decide) (Nat.le_of_ble_eq_true rfl) ?_
  show mw g l 3 mX9_test (fun r : Int32 × mH => (some (Value.int r.1), r.2)) 0 [(0, .ref (mad g 82))] [] h _
  unfold x_X9_test
  refine mw_aload_n (n := 1) (q := 0) dX9_test_0 rfl rfl rfl ?_
  refine mw_iconst (n := 2) (v := 0) dX9_test_1 rfl (by decide) ?_
  refine mw_puti (n := 5) (a := 82) (k := 0) cl9 ct9 (mkm hg (by decide) (by rfl)) (by decide) rfl rfl rfl rfl fl_X9_65 dX9_test_2 rfl (mw_leth (fun h1 => ?_))
  refine mw_aload_n (n := 6) (q := 0) dX9_test_5 rfl rfl rfl ?_
  refine mw_getr (n := 9) (a := 82) (k := 4) cl9 (mkm hg (by decide) (by rfl)) (by decide) rfl rfl fl_X9_16 dX9_test_6 rfl ?_
  refine mw_callS (n := 12) (As := [.ref (mad g 85)]) (t_X9_tested hg N 85 (mkm hg (by decide) (by rfl)) h1) (by decide) ok_X9_tested rfl lk_X9_158 sm_X9_tested dX9_test_9 rfl rfl (Nat.le_of_ble_eq_true rfl) (fun q2 _ => ?_)
  show mw g l _ _ _ 12 _ [.int q2] h1 _
  exact mw_iret dX9_test_12 rfl rfl
