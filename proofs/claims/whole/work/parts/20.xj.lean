noncomputable def x_J9_max_7cf53 (p0 : Int32) (p1 : Int32) : Option (Int32) :=
  some (if p0 < p1 then p1 else p0)
set_option maxRecDepth 20000 in
set_option maxHeartbeats 4000000 in
theorem t_J9_max_7cf53 {g : mG} {l : Launch} (p0 : Int32) (p1 : Int32) (h : mH) : mf g l 0 mJ9_max_7cf53 (fun r : Int32 => (some (Value.int r), h)) [.int p0, .int p1] h (x_J9_max_7cf53 p0 p1) := by
  refine mf_ofF (by decide +kernel) (Nat.le_of_ble_eq_true rfl) ?_
  show mw g l 0 mJ9_max_7cf53 (fun r : Int32 => (some (Value.int r), h)) 0 [(0, .int p0), (1, .int p1)] [] h _
  unfold x_J9_max_7cf53
  refine mw_iload_n (n := 1) (q := 0) dJ9_max_7cf53_0 rfl rfl rfl ?_
  refine mw_iload_n (n := 2) (q := 1) dJ9_max_7cf53_1 rfl rfl rfl ?_
  refine mw_cutJ (pc' := 10) (lv' := [(0, .int p0), (1, .int p1)]) (st' := [.int (if p0 < p1 then p1 else p0)]) (fun J => ?_) ?_
  · refine mw_icmp_lt_m (n := 5) (t := 9) dJ9_max_7cf53_2 rfl (by decide) (fun c1 => ?_) (fun c1 => ?_)
    · refine mw_iload_n (n := 10) (q := 1) dJ9_max_7cf53_9 rfl rfl rfl ?_
      exact mw_topeq (if_pos c1).symm J
    · refine mw_iload_n (n := 6) (q := 0) dJ9_max_7cf53_5 rfl rfl rfl ?_
      refine mw_goto (n := 10) dJ9_max_7cf53_6 (by decide) ?_
      exact mw_topeq (if_neg c1).symm J
  exact mw_iret dJ9_max_7cf53_10 rfl rfl
noncomputable def x_J9_min_7cf53 (p0 : Int32) (p1 : Int32) : Option (Int32) :=
  some (if p1 < p0 then p1 else p0)
set_option maxRecDepth 20000 in
set_option maxHeartbeats 4000000 in
theorem t_J9_min_7cf53 {g : mG} {l : Launch} (p0 : Int32) (p1 : Int32) (h : mH) : mf g l 0 mJ9_min_7cf53 (fun r : Int32 => (some (Value.int r), h)) [.int p0, .int p1] h (x_J9_min_7cf53 p0 p1) := by
  refine mf_ofF (by decide +kernel) (Nat.le_of_ble_eq_true rfl) ?_
  show mw g l 0 mJ9_min_7cf53 (fun r : Int32 => (some (Value.int r), h)) 0 [(0, .int p0), (1, .int p1)] [] h _
  unfold x_J9_min_7cf53
  refine mw_iload_n (n := 1) (q := 0) dJ9_min_7cf53_0 rfl rfl rfl ?_
  refine mw_iload_n (n := 2) (q := 1) dJ9_min_7cf53_1 rfl rfl rfl ?_
  refine mw_cutJ (pc' := 10) (lv' := [(0, .int p0), (1, .int p1)]) (st' := [.int (if p1 < p0 then p1 else p0)]) (fun J => ?_) ?_
  · refine mw_icmp_gt_m (n := 5) (t := 9) dJ9_min_7cf53_2 rfl (by decide) (fun c1 => ?_) (fun c1 => ?_)
    · refine mw_iload_n (n := 10) (q := 1) dJ9_min_7cf53_9 rfl rfl rfl ?_
      exact mw_topeq (if_pos c1).symm J
    · refine mw_iload_n (n := 6) (q := 0) dJ9_min_7cf53_5 rfl rfl rfl ?_
      refine mw_goto (n := 10) dJ9_min_7cf53_6 (by decide) ?_
      exact mw_topeq (if_neg c1).symm J
  exact mw_iret dJ9_min_7cf53_10 rfl rfl
noncomputable def x_J6_bitCount_0f7a4 (p0 : Int32) : Option (Int32) :=
  mlet (p0 - ((xushr p0 (1 : Int32)) &&& (1431655765 : Int32))) fun u1 =>
  mlet ((u1 &&& (858993459 : Int32)) + ((xushr u1 (2 : Int32)) &&& (858993459 : Int32))) fun u2 =>
  mlet ((u2 + (xushr u2 (4 : Int32))) &&& (252645135 : Int32)) fun u3 =>
  mlet (u3 + (xushr u3 (8 : Int32))) fun u4 =>
  mlet (u4 + (xushr u4 (16 : Int32))) fun u5 =>
  some (u5 &&& (63 : Int32))
set_option maxRecDepth 20000 in
set_option maxHeartbeats 4000000 in
theorem t_J6_bitCount_0f7a4 {g : mG} {l : Launch} (p0 : Int32) (h : mH) : mf g l 0 mJ6_bitCount_0f7a4 (fun r : Int32 => (some (Value.int r), h)) [.int p0] h (x_J6_bitCount_0f7a4 p0) := by
  refine mf_ofF (by decide +kernel) (Nat.le_of_ble_eq_true rfl) ?_
  show mw g l 0 mJ6_bitCount_0f7a4 (fun r : Int32 => (some (Value.int r), h)) 0 [(0, .int p0)] [] h _
  unfold x_J6_bitCount_0f7a4
  refine mw_iload_n (n := 1) (q := 0) dJ6_bitCount_0f7a4_0 rfl rfl rfl ?_
  refine mw_iload_n (n := 2) (q := 0) dJ6_bitCount_0f7a4_1 rfl rfl rfl ?_
  refine mw_iconst (n := 3) (v := 1) dJ6_bitCount_0f7a4_2 rfl (by decide) ?_
  refine mw_iushr (n := 4) dJ6_bitCount_0f7a4_3 rfl ?_
  refine mw_ldcw (n := 7) dJ6_bitCount_0f7a4_4 rfl kc_J6_265 ?_
  refine mw_iand (n := 8) dJ6_bitCount_0f7a4_7 rfl ?_
  refine mw_isub (n := 9) dJ6_bitCount_0f7a4_8 rfl ?_
  refine mw_letI (fun u1 => ?_)
  refine mw_istore_n (n := 10) dJ6_bitCount_0f7a4_9 rfl rfl (by decide) rfl ?_
  refine mw_iload_n (n := 11) (q := 0) dJ6_bitCount_0f7a4_10 rfl rfl rfl ?_
  refine mw_ldcw (n := 14) dJ6_bitCount_0f7a4_11 rfl kc_J6_266 ?_
  refine mw_iand (n := 15) dJ6_bitCount_0f7a4_14 rfl ?_
  refine mw_iload_n (n := 16) (q := 0) dJ6_bitCount_0f7a4_15 rfl rfl rfl ?_
  refine mw_iconst (n := 17) (v := 2) dJ6_bitCount_0f7a4_16 rfl (by decide) ?_
  refine mw_iushr (n := 18) dJ6_bitCount_0f7a4_17 rfl ?_
  refine mw_ldcw (n := 21) dJ6_bitCount_0f7a4_18 rfl kc_J6_266 ?_
  refine mw_iand (n := 22) dJ6_bitCount_0f7a4_21 rfl ?_
  refine mw_iadd (n := 23) dJ6_bitCount_0f7a4_22 rfl ?_
  refine mw_letI (fun u2 => ?_)
  refine mw_istore_n (n := 24) dJ6_bitCount_0f7a4_23 rfl rfl (by decide) rfl ?_
  refine mw_iload_n (n := 25) (q := 0) dJ6_bitCount_0f7a4_24 rfl rfl rfl ?_
  refine mw_iload_n (n := 26) (q := 0) dJ6_bitCount_0f7a4_25 rfl rfl rfl ?_
  refine mw_iconst (n := 27) (v := 4) dJ6_bitCount_0f7a4_26 rfl (by decide) ?_
  refine mw_iushr (n := 28) dJ6_bitCount_0f7a4_27 rfl ?_
  refine mw_iadd (n := 29) dJ6_bitCount_0f7a4_28 rfl ?_
  refine mw_ldcw (n := 32) dJ6_bitCount_0f7a4_29 rfl kc_J6_267 ?_
  refine mw_iand (n := 33) dJ6_bitCount_0f7a4_32 rfl ?_
  refine mw_letI (fun u3 => ?_)
  refine mw_istore_n (n := 34) dJ6_bitCount_0f7a4_33 rfl rfl (by decide) rfl ?_
  refine mw_iload_n (n := 35) (q := 0) dJ6_bitCount_0f7a4_34 rfl rfl rfl ?_
  refine mw_iload_n (n := 36) (q := 0) dJ6_bitCount_0f7a4_35 rfl rfl rfl ?_
  refine mw_bipush (n := 38) (v := 8) dJ6_bitCount_0f7a4_36 rfl (by decide) ?_
  refine mw_iushr (n := 39) dJ6_bitCount_0f7a4_38 rfl ?_
  refine mw_iadd (n := 40) dJ6_bitCount_0f7a4_39 rfl ?_
  refine mw_letI (fun u4 => ?_)
  refine mw_istore_n (n := 41) dJ6_bitCount_0f7a4_40 rfl rfl (by decide) rfl ?_
  refine mw_iload_n (n := 42) (q := 0) dJ6_bitCount_0f7a4_41 rfl rfl rfl ?_
  refine mw_iload_n (n := 43) (q := 0) dJ6_bitCount_0f7a4_42 rfl rfl rfl ?_
  refine mw_bipush (n := 45) (v := 16) dJ6_bitCount_0f7a4_43 rfl (by decide) ?_
  refine mw_iushr (n := 46) dJ6_bitCount_0f7a4_45 rfl ?_
  refine mw_iadd (n := 47) dJ6_bitCount_0f7a4_46 rfl ?_
  refine mw_letI (fun u5 => ?_)
  refine mw_istore_n (n := 48) dJ6_bitCount_0f7a4_47 rfl rfl (by decide) rfl ?_
  refine mw_iload_n (n := 49) (q := 0) dJ6_bitCount_0f7a4_48 rfl rfl rfl ?_
  refine mw_bipush (n := 51) (v := 63) dJ6_bitCount_0f7a4_49 rfl (by decide) ?_
  refine mw_iand (n := 52) dJ6_bitCount_0f7a4_51 rfl ?_
  exact mw_iret dJ6_bitCount_0f7a4_52 rfl rfl
noncomputable def x_X8_bitOf (p0 : Int32) : Option (Int32) :=
  some ((1 : Int32) <<< (((19 : Int32) - p0) &&& 31))
set_option maxRecDepth 20000 in
set_option maxHeartbeats 4000000 in
theorem t_X8_bitOf {g : mG} {l : Launch} (hg : mOK g) (p0 : Int32) (h : mH) : mf g l 0 mX8_bitOf (fun r : Int32 => (some (Value.int r), h)) [.int p0] h (x_X8_bitOf p0) := by
  refine mf_of (by decide) (Nat.le_of_ble_eq_true rfl) ?_
  show mw g l 0 mX8_bitOf (fun r : Int32 => (some (Value.int r), h)) 0 [(0, .int p0)] [] h _
  unfold x_X8_bitOf
  refine mw_iconst (n := 1) (v := 1) dX8_bitOf_0 rfl (by decide) ?_
  refine mw_bipush (n := 3) (v := 19) dX8_bitOf_1 rfl (by decide) ?_
  refine mw_iload_n (n := 4) (q := 0) dX8_bitOf_3 rfl rfl rfl ?_
  refine mw_isub (n := 5) dX8_bitOf_4 rfl ?_
  refine mw_ishl (n := 6) dX8_bitOf_5 rfl ?_
  exact mw_iret dX8_bitOf_6 rfl rfl
noncomputable def x_X8_columnBit (p0 : Int32) : Option (Int32) :=
  some ((1 : Int32) <<< (((4 : Int32) - p0) &&& 31))
set_option maxRecDepth 20000 in
set_option maxHeartbeats 4000000 in
theorem t_X8_columnBit {g : mG} {l : Launch} (hg : mOK g) (p0 : Int32) (h : mH) : mf g l 0 mX8_columnBit (fun r : Int32 => (some (Value.int r), h)) [.int p0] h (x_X8_columnBit p0) := by
  refine mf_of (by decide) (Nat.le_of_ble_eq_true rfl) ?_
  show mw g l 0 mX8_columnBit (fun r : Int32 => (some (Value.int r), h)) 0 [(0, .int p0)] [] h _
  unfold x_X8_columnBit
  refine mw_iconst (n := 1) (v := 1) dX8_columnBit_0 rfl (by decide) ?_
  refine mw_iconst (n := 2) (v := 4) dX8_columnBit_1 rfl (by decide) ?_
  refine mw_iload_n (n := 3) (q := 0) dX8_columnBit_2 rfl rfl rfl ?_
  refine mw_isub (n := 4) dX8_columnBit_3 rfl ?_
  refine mw_ishl (n := 5) dX8_columnBit_4 rfl ?_
  exact mw_iret dX8_columnBit_5 rfl rfl
noncomputable def x_X8_yesIn (p0 : Int32) (p1 : Int32) : Option (Int32) :=
  (x_X8_bitOf p1).bind fun q1 =>
  some (if (p0 &&& q1) = 0 then (0 : Int32) else (1 : Int32))
set_option maxRecDepth 20000 in
set_option maxHeartbeats 4000000 in
theorem t_X8_yesIn {g : mG} {l : Launch} (hg : mOK g) (p0 : Int32) (p1 : Int32) (h : mH) : mf g l 1 mX8_yesIn (fun r : Int32 => (some (Value.int r), h)) [.int p0, .int p1] h (x_X8_yesIn p0 p1) := by
  refine mf_of (by decide) (Nat.le_of_ble_eq_true rfl) ?_
  show mw g l 1 mX8_yesIn (fun r : Int32 => (some (Value.int r), h)) 0 [(0, .int p0), (1, .int p1)] [] h _
  unfold x_X8_yesIn
  refine mw_iload_n (n := 1) (q := 0) dX8_yesIn_0 rfl rfl rfl ?_
  refine mw_iload_n (n := 2) (q := 1) dX8_yesIn_1 rfl rfl rfl ?_
  refine mw_callS (n := 5) (As := [.int p1]) (t_X8_bitOf hg p1 h) (by decide) ok_X8_bitOf rfl lk_X8_235 sm_X8_bitOf dX8_yesIn_2 rfl rfl (Nat.le_of_ble_eq_true rfl) (fun q1 _ => ?_)
  show mw g l _ _ _ 5 _ [.int q1, .int p0] h _
  refine mw_iand (n := 6) dX8_yesIn_5 rfl ?_
  refine mw_cutJ (pc' := 14) (lv' := [(0, .int p0), (1, .int p1)]) (st' := [.int (if (p0 &&& q1) = 0 then (0 : Int32) else (1 : Int32))]) (fun J => ?_) ?_
  · refine mw_if_eq_m (n := 9) (t := 13) dX8_yesIn_6 rfl (by decide) (fun c2 => ?_) (fun c2 => ?_)
    · refine mw_iconst (n := 14) (v := 0) dX8_yesIn_13 rfl (by decide) ?_
      exact mw_topeq (if_pos c2).symm J
    · refine mw_iconst (n := 10) (v := 1) dX8_yesIn_9 rfl (by decide) ?_
      refine mw_goto (n := 14) dX8_yesIn_10 (by decide) ?_
      exact mw_topeq (if_neg c2).symm J
  exact mw_iret dX8_yesIn_14 rfl rfl
noncomputable def x_X8_leastCell_2 (N : Nat) (v0 : Int32) (f : Nat) : Int32 → Option (Int32) :=
  Nat.rec (motive := fun _ => Int32 → Option (Int32)) (fun _ => none) (fun _ self2 => fun v1 => 
    if (20 : Int32) ≤ v1 then
      some (-9 : Int32)
    else
      (x_X8_bitOf v1).bind fun q2 =>
      if (v0 &&& q2) = 0 then
        self2 (v1 + (1 : Int32))
      else
        some v1) f
theorem x_X8_leastCell_2_0 (N : Nat) (v0 : Int32) (v1 : Int32) : x_X8_leastCell_2 N v0 0 v1 = none := rfl
theorem x_X8_leastCell_2_s (N : Nat) (v0 : Int32) (f : Nat) (v1 : Int32) : x_X8_leastCell_2 N v0 (f + 1) v1 = (
    if (20 : Int32) ≤ v1 then
      some (-9 : Int32)
    else
      (x_X8_bitOf v1).bind fun q2 =>
      if (v0 &&& q2) = 0 then
        (x_X8_leastCell_2 N v0 f) (v1 + (1 : Int32))
      else
        some v1) := rfl
set_option maxRecDepth 20000 in
set_option maxHeartbeats 4000000 in
theorem b_X8_leastCell_2 {g : mG} {l : Launch} (hg : mOK g) (N : Nat) (v0 : Int32) (h : mH) (f : Nat) : ∀ (v1 : Int32), mw g l 1 mX8_leastCell (fun r : Int32 => (some (Value.int r), h)) 2 [(0, .int v0), (1, .int v1)] [] h (x_X8_leastCell_2 N v0 f v1) := by
  induction f with
  | zero => intros; exact mw_none
  | succ f hself2 =>
    intro v1
    refine mw_eq (x_X8_leastCell_2_s N v0 f v1) ?_
    generalize x_X8_leastCell_2 N v0 f = self2 at hself2 ⊢
    refine mw_iload_n (n := 3) (q := 1) dX8_leastCell_2 rfl rfl rfl ?_
    refine mw_bipush (n := 5) (v := 20) dX8_leastCell_3 rfl (by decide) ?_
    refine mw_icmp_ge (n := 8) (t := 25) dX8_leastCell_5 rfl (by decide) Iff.rfl (fun c1 => ?_) (fun c1 => ?_)
    · refine mw_bipush (n := 27) (v := -9) dX8_leastCell_25 rfl (by decide) ?_
      exact mw_iret dX8_leastCell_27 rfl rfl
    · refine mw_iload_n (n := 9) (q := 0) dX8_leastCell_8 rfl rfl rfl ?_
      refine mw_iload_n (n := 10) (q := 1) dX8_leastCell_9 rfl rfl rfl ?_
      refine mw_callS (n := 13) (As := [.int v1]) (t_X8_bitOf hg v1 h) (by decide) ok_X8_bitOf rfl lk_X8_235 sm_X8_bitOf dX8_leastCell_10 rfl rfl (Nat.le_of_ble_eq_true rfl) (fun q2 _ => ?_)
      show mw g l _ _ _ 13 _ [.int q2, .int v0] h _
      refine mw_iand (n := 14) dX8_leastCell_13 rfl ?_
      refine mw_if_eq (n := 17) (t := 19) dX8_leastCell_14 rfl (by decide) Iff.rfl (fun c3 => ?_) (fun c3 => ?_)
      · refine mw_iinc (n := 22) (q := 1) (v := (v1 + (1 : Int32))) dX8_leastCell_19 rfl rfl rfl (by decide) rfl ?_
        refine mw_goto (n := 2) dX8_leastCell_22 (by decide) ?_
        refine mw_sub [1, 0] rfl ?_
        exact hself2 (v1 + (1 : Int32))
      · refine mw_iload_n (n := 18) (q := 1) dX8_leastCell_17 rfl rfl rfl ?_
        exact mw_iret dX8_leastCell_18 rfl rfl
noncomputable def x_X8_leastCell (N : Nat) (p0 : Int32) : Option (Int32) :=
  x_X8_leastCell_2 N p0 N (0 : Int32)
set_option maxRecDepth 20000 in
set_option maxHeartbeats 4000000 in
theorem t_X8_leastCell {g : mG} {l : Launch} (hg : mOK g) (N : Nat) (p0 : Int32) (h : mH) : mf g l 1 mX8_leastCell (fun r : Int32 => (some (Value.int r), h)) [.int p0] h (x_X8_leastCell N p0) := by
  refine mf_of (by decide) (Nat.le_of_ble_eq_true rfl) ?_
  show mw g l 1 mX8_leastCell (fun r : Int32 => (some (Value.int r), h)) 0 [(0, .int p0)] [] h _
  unfold x_X8_leastCell
  refine mw_iconst (n := 1) (v := 0) dX8_leastCell_0 rfl (by decide) ?_
  refine mw_istore_n (n := 2) dX8_leastCell_1 rfl rfl (by decide) rfl ?_
  refine mw_sub [1, 0] rfl ?_
  exact b_X8_leastCell_2 hg N p0 h N (0 : Int32)
noncomputable def x_X8_remainder (p0 : Int32) (p1 : Int32) : Option (Int32) :=
  if p1 ≤ 0 then
    some (0 : Int32)
  else
    mzd p1 <|
    some (xrem p0 p1)
set_option maxRecDepth 20000 in
set_option maxHeartbeats 4000000 in
theorem t_X8_remainder {g : mG} {l : Launch} (hg : mOK g) (p0 : Int32) (p1 : Int32) (h : mH) : mf g l 0 mX8_remainder (fun r : Int32 => (some (Value.int r), h)) [.int p0, .int p1] h (x_X8_remainder p0 p1) := by
  refine mf_of (by decide) (Nat.le_of_ble_eq_true rfl) ?_
  show mw g l 0 mX8_remainder (fun r : Int32 => (some (Value.int r), h)) 0 [(0, .int p0), (1, .int p1)] [] h _
  unfold x_X8_remainder
  refine mw_iload_n (n := 1) (q := 1) dX8_remainder_0 rfl rfl rfl ?_
  refine mw_if_le (n := 4) (t := 10) dX8_remainder_1 rfl (by decide) Iff.rfl (fun c1 => ?_) (fun c1 => ?_)
  · refine mw_iconst (n := 11) (v := 0) dX8_remainder_10 rfl (by decide) ?_
    exact mw_iret dX8_remainder_11 rfl rfl
  · refine mw_iload_n (n := 5) (q := 0) dX8_remainder_4 rfl rfl rfl ?_
    refine mw_iload_n (n := 6) (q := 1) dX8_remainder_5 rfl rfl rfl ?_
    refine mw_iremC (n := 7) dX8_remainder_6 rfl ?_
    refine mw_goto (n := 11) dX8_remainder_7 (by decide) ?_
    exact mw_iret dX8_remainder_11 rfl rfl
noncomputable def x_X8_power_4 (N : Nat) (v0 : Int32) (v1 : Int32) (f : Nat) : Int32 → Int32 → Option (Int32) :=
  Nat.rec (motive := fun _ => Int32 → Int32 → Option (Int32)) (fun _ _ => none) (fun _ self4 => fun v2 v3 => 
    if v1 ≤ v3 then
      some v2
    else
      mlet (v2 * v0) fun u2 =>
      self4 u2 (v3 + (1 : Int32))) f
theorem x_X8_power_4_0 (N : Nat) (v0 : Int32) (v1 : Int32) (v2 : Int32) (v3 : Int32) : x_X8_power_4 N v0 v1 0 v2 v3 = none := rfl
theorem x_X8_power_4_s (N : Nat) (v0 : Int32) (v1 : Int32) (f : Nat) (v2 : Int32) (v3 : Int32) : x_X8_power_4 N v0 v1 (f + 1) v2 v3 = (
    if v1 ≤ v3 then
      some v2
    else
      mlet (v2 * v0) fun u2 =>
      (x_X8_power_4 N v0 v1 f) u2 (v3 + (1 : Int32))) := rfl
set_option maxRecDepth 20000 in
set_option maxHeartbeats 4000000 in
theorem b_X8_power_4 {g : mG} {l : Launch} (hg : mOK g) (N : Nat) (v0 : Int32) (v1 : Int32) (h : mH) (f : Nat) : ∀ (v2 : Int32) (v3 : Int32), mw g l 0 mX8_power (fun r : Int32 => (some (Value.int r), h)) 4 [(0, .int v0), (1, .int v1), (2, .int v2), (3, .int v3)] [] h (x_X8_power_4 N v0 v1 f v2 v3) := by
  induction f with
  | zero => intros; exact mw_none
  | succ f hself4 =>
    intro v2 v3
    refine mw_eq (x_X8_power_4_s N v0 v1 f v2 v3) ?_
    generalize x_X8_power_4 N v0 v1 f = self4 at hself4 ⊢
    refine mw_iload_n (n := 5) (q := 3) dX8_power_4 rfl rfl rfl ?_
    refine mw_iload_n (n := 6) (q := 1) dX8_power_5 rfl rfl rfl ?_
    refine mw_icmp_ge (n := 9) (t := 19) dX8_power_6 rfl (by decide) Iff.rfl (fun c1 => ?_) (fun c1 => ?_)
    · refine mw_iload_n (n := 20) (q := 2) dX8_power_19 rfl rfl rfl ?_
      exact mw_iret dX8_power_20 rfl rfl
    · refine mw_iload_n (n := 10) (q := 2) dX8_power_9 rfl rfl rfl ?_
      refine mw_iload_n (n := 11) (q := 0) dX8_power_10 rfl rfl rfl ?_
      refine mw_imul (n := 12) dX8_power_11 rfl ?_
      refine mw_letI (fun u2 => ?_)
      refine mw_istore_n (n := 13) dX8_power_12 rfl rfl (by decide) rfl ?_
      refine mw_iinc (n := 16) (q := 3) (v := (v3 + (1 : Int32))) dX8_power_13 rfl rfl rfl (by decide) rfl ?_
      refine mw_goto (n := 4) dX8_power_16 (by decide) ?_
      refine mw_sub [2, 3, 1, 0] rfl ?_
      exact hself4 u2 (v3 + (1 : Int32))
noncomputable def x_X8_power (N : Nat) (p0 : Int32) (p1 : Int32) : Option (Int32) :=
  x_X8_power_4 N p0 p1 N (1 : Int32) (0 : Int32)
set_option maxRecDepth 20000 in
set_option maxHeartbeats 4000000 in
theorem t_X8_power {g : mG} {l : Launch} (hg : mOK g) (N : Nat) (p0 : Int32) (p1 : Int32) (h : mH) : mf g l 0 mX8_power (fun r : Int32 => (some (Value.int r), h)) [.int p0, .int p1] h (x_X8_power N p0 p1) := by
  refine mf_of (by decide) (Nat.le_of_ble_eq_true rfl) ?_
  show mw g l 0 mX8_power (fun r : Int32 => (some (Value.int r), h)) 0 [(0, .int p0), (1, .int p1)] [] h _
  unfold x_X8_power
  refine mw_iconst (n := 1) (v := 1) dX8_power_0 rfl (by decide) ?_
  refine mw_istore_n (n := 2) dX8_power_1 rfl rfl (by decide) rfl ?_
  refine mw_iconst (n := 3) (v := 0) dX8_power_2 rfl (by decide) ?_
  refine mw_istore_n (n := 4) dX8_power_3 rfl rfl (by decide) rfl ?_
  refine mw_sub [2, 3, 1, 0] rfl ?_
  exact b_X8_power_4 hg N p0 p1 h N (1 : Int32) (0 : Int32)
noncomputable def x_X8_greatestDivisor_7 (N : Nat) (f : Nat) : Int32 → Int32 → Int32 → Option (Int32) :=
  Nat.rec (motive := fun _ => Int32 → Int32 → Int32 → Option (Int32)) (fun _ _ _ => none) (fun _ self7 => fun v2 v3 v4 => 
    if (64 : Int32) ≤ v4 then
      some v2
    else
      if v3 = 0 then
        some v2
      else
        mzd v3 <|
        mlet (xrem v2 v3) fun u3 =>
        self7 v3 u3 (v4 + (1 : Int32))) f
theorem x_X8_greatestDivisor_7_0 (N : Nat) (v2 : Int32) (v3 : Int32) (v4 : Int32) : x_X8_greatestDivisor_7 N 0 v2 v3 v4 = none := rfl
theorem x_X8_greatestDivisor_7_s (N : Nat) (f : Nat) (v2 : Int32) (v3 : Int32) (v4 : Int32) : x_X8_greatestDivisor_7 N (f + 1) v2 v3 v4 = (
    if (64 : Int32) ≤ v4 then
      some v2
    else
      if v3 = 0 then
        some v2
      else
        mzd v3 <|
        mlet (xrem v2 v3) fun u3 =>
        (x_X8_greatestDivisor_7 N f) v3 u3 (v4 + (1 : Int32))) := rfl
set_option maxRecDepth 20000 in
set_option maxHeartbeats 4000000 in
theorem b_X8_greatestDivisor_7 {g : mG} {l : Launch} (hg : mOK g) (N : Nat) (h : mH) (f : Nat) : ∀ (v2 : Int32) (v3 : Int32) (v4 : Int32), mw g l 0 mX8_greatestDivisor (fun r : Int32 => (some (Value.int r), h)) 7 [(2, .int v2), (3, .int v3), (4, .int v4)] [] h (x_X8_greatestDivisor_7 N f v2 v3 v4) := by
  induction f with
  | zero => intros; exact mw_none
  | succ f hself7 =>
    intro v2 v3 v4
    refine mw_eq (x_X8_greatestDivisor_7_s N f v2 v3 v4) ?_
    generalize x_X8_greatestDivisor_7 N f = self7 at hself7 ⊢
    refine mw_iload (n := 9) (q := 2) dX8_greatestDivisor_7 rfl rfl ?_
    refine mw_bipush (n := 11) (v := 64) dX8_greatestDivisor_9 rfl (by decide) ?_
    refine mw_icmp_ge (n := 14) (t := 34) dX8_greatestDivisor_11 rfl (by decide) Iff.rfl (fun c1 => ?_) (fun c1 => ?_)
    · refine mw_iload_n (n := 35) (q := 0) dX8_greatestDivisor_34 rfl rfl rfl ?_
      exact mw_iret dX8_greatestDivisor_35 rfl rfl
    · refine mw_iload_n (n := 15) (q := 1) dX8_greatestDivisor_14 rfl rfl rfl ?_
      refine mw_if_eq (n := 18) (t := 34) dX8_greatestDivisor_15 rfl (by decide) Iff.rfl (fun c2 => ?_) (fun c2 => ?_)
      · refine mw_iload_n (n := 35) (q := 0) dX8_greatestDivisor_34 rfl rfl rfl ?_
        exact mw_iret dX8_greatestDivisor_35 rfl rfl
      · refine mw_iload_n (n := 19) (q := 0) dX8_greatestDivisor_18 rfl rfl rfl ?_
        refine mw_iload_n (n := 20) (q := 1) dX8_greatestDivisor_19 rfl rfl rfl ?_
        refine mw_iremC (n := 21) dX8_greatestDivisor_20 rfl ?_
        refine mw_letI (fun u3 => ?_)
        refine mw_istore (n := 23) dX8_greatestDivisor_21 rfl (by decide) rfl ?_
        refine mw_iload_n (n := 24) (q := 2) dX8_greatestDivisor_23 rfl rfl rfl ?_
        refine mw_istore_n (n := 25) dX8_greatestDivisor_24 rfl rfl (by decide) rfl ?_
        refine mw_iload (n := 27) (q := 1) dX8_greatestDivisor_25 rfl rfl ?_
        refine mw_istore_n (n := 28) dX8_greatestDivisor_27 rfl rfl (by decide) rfl ?_
        refine mw_iinc (n := 31) (q := 3) (v := (v4 + (1 : Int32))) dX8_greatestDivisor_28 rfl rfl rfl (by decide) rfl ?_
        refine mw_goto (n := 7) dX8_greatestDivisor_31 (by decide) ?_
        refine mw_sub [2, 1, 0] rfl ?_
        exact hself7 v3 u3 (v4 + (1 : Int32))
noncomputable def x_X8_greatestDivisor (N : Nat) (p0 : Int32) (p1 : Int32) : Option (Int32) :=
  x_X8_greatestDivisor_7 N N p0 p1 (0 : Int32)
set_option maxRecDepth 20000 in
set_option maxHeartbeats 4000000 in
theorem t_X8_greatestDivisor {g : mG} {l : Launch} (hg : mOK g) (N : Nat) (p0 : Int32) (p1 : Int32) (h : mH) : mf g l 0 mX8_greatestDivisor (fun r : Int32 => (some (Value.int r), h)) [.int p0, .int p1] h (x_X8_greatestDivisor N p0 p1) := by
  refine mf_of (by decide) (Nat.le_of_ble_eq_true rfl) ?_
  show mw g l 0 mX8_greatestDivisor (fun r : Int32 => (some (Value.int r), h)) 0 [(0, .int p0), (1, .int p1)] [] h _
  unfold x_X8_greatestDivisor
  refine mw_iload_n (n := 1) (q := 0) dX8_greatestDivisor_0 rfl rfl rfl ?_
  refine mw_istore_n (n := 2) dX8_greatestDivisor_1 rfl rfl (by decide) rfl ?_
  refine mw_iload_n (n := 3) (q := 2) dX8_greatestDivisor_2 rfl rfl rfl ?_
  refine mw_istore_n (n := 4) dX8_greatestDivisor_3 rfl rfl (by decide) rfl ?_
  refine mw_iconst (n := 5) (v := 0) dX8_greatestDivisor_4 rfl (by decide) ?_
  refine mw_istore (n := 7) dX8_greatestDivisor_5 rfl (by decide) rfl ?_
  refine mw_sub [2, 1, 0] rfl ?_
  exact b_X8_greatestDivisor_7 hg N h N p0 p1 (0 : Int32)
noncomputable def x_X8_inLeastTerms (N : Nat) (p0 : Int32) (p1 : Int32) (p2 : Int32) : Option (Int32) :=
  (x_X8_greatestDivisor N p0 p1).bind fun q1 =>
  (x_J9_max_7cf53 (1 : Int32) q1).bind fun q2 =>
  if p2 = 0 then
    mzd q2 <|
    some (p1 / q2)
  else
    mzd q2 <|
    some (p0 / q2)
set_option maxRecDepth 20000 in
set_option maxHeartbeats 4000000 in
theorem t_X8_inLeastTerms {g : mG} {l : Launch} (hg : mOK g) (N : Nat) (p0 : Int32) (p1 : Int32) (p2 : Int32) (h : mH) : mf g l 1 mX8_inLeastTerms (fun r : Int32 => (some (Value.int r), h)) [.int p0, .int p1, .int p2] h (x_X8_inLeastTerms N p0 p1 p2) := by
  refine mf_of (by decide) (Nat.le_of_ble_eq_true rfl) ?_
  show mw g l 1 mX8_inLeastTerms (fun r : Int32 => (some (Value.int r), h)) 0 [(0, .int p0), (1, .int p1), (2, .int p2)] [] h _
  unfold x_X8_inLeastTerms
  refine mw_iconst (n := 1) (v := 1) dX8_inLeastTerms_0 rfl (by decide) ?_
  refine mw_iload_n (n := 2) (q := 0) dX8_inLeastTerms_1 rfl rfl rfl ?_
  refine mw_iload_n (n := 3) (q := 1) dX8_inLeastTerms_2 rfl rfl rfl ?_
  refine mw_callS (n := 6) (As := [.int p0, .int p1]) (t_X8_greatestDivisor hg N p0 p1 h) (by decide) ok_X8_greatestDivisor rfl lk_X8_290 sm_X8_greatestDivisor dX8_inLeastTerms_3 rfl rfl (Nat.le_of_ble_eq_true rfl) (fun q1 _ => ?_)
  show mw g l _ _ _ 6 _ [.int q1, .int (1 : Int32)] h _
  refine mw_callS (n := 9) (As := [.int (1 : Int32), .int q1]) (t_J9_max_7cf53 (1 : Int32) q1 h) (by decide) ok_J9_max_7cf53 rfl lk_X8_155 sm_J9_max_7cf53 dX8_inLeastTerms_6 rfl rfl (Nat.le_of_ble_eq_true rfl) (fun q2 _ => ?_)
  show mw g l _ _ _ 9 _ [.int q2] h _
  refine mw_istore_n (n := 10) dX8_inLeastTerms_9 rfl rfl (by decide) rfl ?_
  refine mw_iload_n (n := 11) (q := 3) dX8_inLeastTerms_10 rfl rfl rfl ?_
  refine mw_if_eq (n := 14) (t := 20) dX8_inLeastTerms_11 rfl (by decide) Iff.rfl (fun c3 => ?_) (fun c3 => ?_)
  · refine mw_iload_n (n := 21) (q := 2) dX8_inLeastTerms_20 rfl rfl rfl ?_
    refine mw_iload_n (n := 22) (q := 0) dX8_inLeastTerms_21 rfl rfl rfl ?_
    refine mw_idivC (n := 23) dX8_inLeastTerms_22 rfl ?_
    exact mw_iret dX8_inLeastTerms_23 rfl rfl
  · refine mw_iload_n (n := 15) (q := 1) dX8_inLeastTerms_14 rfl rfl rfl ?_
    refine mw_iload_n (n := 16) (q := 0) dX8_inLeastTerms_15 rfl rfl rfl ?_
    refine mw_idivC (n := 17) dX8_inLeastTerms_16 rfl ?_
    refine mw_goto (n := 23) dX8_inLeastTerms_17 (by decide) ?_
    exact mw_iret dX8_inLeastTerms_23 rfl rfl
