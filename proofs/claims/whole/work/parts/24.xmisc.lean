noncomputable def x_X0_add (p0 : Nat) (h : mH) : Option (mH) :=
  mck (mgi h 20 1) 14 <|
  (x_X6_become (22 + 3 * ((mgi h 20 1)).toNatClampNeg) p0 h).bind fun q2 =>
  mlet (msi q2 20 1 (if (14 : Int32) ≤ ((mgi q2 20 1) + (1 : Int32)) then (0 : Int32) else ((mgi q2 20 1) + (1 : Int32)))) fun h4 =>
  (x_J9_min_7cf53 ((mgi h4 20 2) + (1 : Int32)) (14 : Int32)).bind fun q5 =>
  mlet (msi h4 20 2 q5) fun h6 =>
  some h6
set_option maxRecDepth 20000 in
set_option maxHeartbeats 4000000 in
theorem t_X0_add {g : mG} {l : Launch} (hg : mOK g) (p0 : Nat) (hp0 : mkn g p0 6) (h : mH) : mf g l 1 mX0_add (fun r : mH => ((none : Option Value), r)) [.ref (mad g 20), .ref (mad g p0)] h (x_X0_add p0 h) := by
  refine mf_of (by decide) (Nat.le_of_ble_eq_true rfl) ?_
  show mw g l 1 mX0_add (fun r : mH => ((none : Option Value), r)) 0 [(0, .ref (mad g 20)), (1, .ref (mad g p0))] [] h _
  unfold x_X0_add
  refine mw_aload_n (n := 1) (q := 0) dX0_add_0 rfl rfl rfl ?_
  refine mw_getr (n := 4) (a := 20) (k := 0) cl0 (mkl hg (by decide) (by rfl)) (by decide) rfl rfl fl_X0_11 dX0_add_1 rfl ?_
  refine mw_aload_n (n := 5) (q := 0) dX0_add_4 rfl rfl rfl ?_
  refine mw_geti (n := 8) (a := 20) (k := 1) cl0 (mkl hg (by decide) (by rfl)) (by decide) rfl rfl fl_X0_18 dX0_add_5 rfl ?_
  refine mw_aald60 (n := 9) (a := 21) (mkl hg (by decide) (by rfl)) dX0_add_8 rfl (fun hi1 => ?_)
  refine mw_aload_n (n := 10) (q := 1) dX0_add_9 rfl rfl rfl ?_
  refine mw_callV (n := 13) (a := (22 + 3 * ((mgi h 20 1)).toNatClampNeg)) (As := [.ref (mad g p0)]) cl6 (mkA60 hg hi1) (t_X6_become hg (22 + 3 * ((mgi h 20 1)).toNatClampNeg) p0 (mkA60 hg hi1) hp0 h) (by decide) ok_X6_become rfl rfl lk_X0_22 im_X6_become se_X6_become dX0_add_10 rfl rfl (Nat.le_of_ble_eq_true rfl) (fun q2 _ => ?_)
  show mw g l _ _ _ 13 _ [] q2 _
  refine mw_aload_n (n := 14) (q := 0) dX0_add_13 rfl rfl rfl ?_
  refine mw_aload_n (n := 15) (q := 0) dX0_add_14 rfl rfl rfl ?_
  refine mw_geti (n := 18) (a := 20) (k := 1) cl0 (mkl hg (by decide) (by rfl)) (by decide) rfl rfl fl_X0_18 dX0_add_15 rfl ?_
  refine mw_iconst (n := 19) (v := 1) dX0_add_18 rfl (by decide) ?_
  refine mw_iadd (n := 20) dX0_add_19 rfl ?_
  refine mw_bipush (n := 22) (v := 14) dX0_add_20 rfl (by decide) ?_
  refine mw_cutJ (pc' := 35) (lv' := [(0, .ref (mad g 20)), (1, .ref (mad g p0))]) (st' := [.int (if (14 : Int32) ≤ ((mgi q2 20 1) + (1 : Int32)) then (0 : Int32) else ((mgi q2 20 1) + (1 : Int32))), .ref (mad g 20)]) (fun J => ?_) ?_
  · refine mw_icmp_ge_m (n := 25) (t := 34) dX0_add_22 rfl (by decide) (fun c3 => ?_) (fun c3 => ?_)
    · refine mw_iconst (n := 35) (v := 0) dX0_add_34 rfl (by decide) ?_
      exact mw_topeq (if_pos c3).symm J
    · refine mw_aload_n (n := 26) (q := 0) dX0_add_25 rfl rfl rfl ?_
      refine mw_geti (n := 29) (a := 20) (k := 1) cl0 (mkl hg (by decide) (by rfl)) (by decide) rfl rfl fl_X0_18 dX0_add_26 rfl ?_
      refine mw_iconst (n := 30) (v := 1) dX0_add_29 rfl (by decide) ?_
      refine mw_iadd (n := 31) dX0_add_30 rfl ?_
      refine mw_goto (n := 35) dX0_add_31 (by decide) ?_
      exact mw_topeq (if_neg c3).symm J
  refine mw_puti (n := 38) (a := 20) (k := 1) cl0 ct0 (mkl hg (by decide) (by rfl)) (by decide) rfl rfl rfl rfl fl_X0_18 dX0_add_35 rfl (mw_leth (fun h4 => ?_))
  refine mw_aload_n (n := 39) (q := 0) dX0_add_38 rfl rfl rfl ?_
  refine mw_aload_n (n := 40) (q := 0) dX0_add_39 rfl rfl rfl ?_
  refine mw_geti (n := 43) (a := 20) (k := 2) cl0 (mkl hg (by decide) (by rfl)) (by decide) rfl rfl fl_X0_26 dX0_add_40 rfl ?_
  refine mw_iconst (n := 44) (v := 1) dX0_add_43 rfl (by decide) ?_
  refine mw_iadd (n := 45) dX0_add_44 rfl ?_
  refine mw_bipush (n := 47) (v := 14) dX0_add_45 rfl (by decide) ?_
  refine mw_callS (n := 50) (As := [.int ((mgi h4 20 2) + (1 : Int32)), .int (14 : Int32)]) (t_J9_min_7cf53 ((mgi h4 20 2) + (1 : Int32)) (14 : Int32) h4) (by decide) ok_J9_min_7cf53 rfl lk_X0_29 sm_J9_min_7cf53 dX0_add_47 rfl rfl (Nat.le_of_ble_eq_true rfl) (fun q5 _ => ?_)
  show mw g l _ _ _ 50 _ [.int q5, .ref (mad g 20)] h4 _
  refine mw_puti (n := 53) (a := 20) (k := 2) cl0 ct0 (mkl hg (by decide) (by rfl)) (by decide) rfl rfl rfl rfl fl_X0_26 dX0_add_50 rfl (mw_leth (fun h6 => ?_))
  exact mw_vret dX0_add_53 rfl rfl
noncomputable def x_X0_takeBack (p0 : Nat) (h : mH) : Option (mH) :=
  if (mgi h 20 2) ≤ 0 then
    some h
  else
    mlet (msi h 20 1 (if (mgi h 20 1) ≤ 0 then (13 : Int32) else ((mgi h 20 1) - (1 : Int32)))) fun h3 =>
    mlet (msi h3 20 2 ((mgi h3 20 2) - (1 : Int32))) fun h4 =>
    mck (mgi h4 20 1) 14 <|
    (x_X6_become p0 (22 + 3 * ((mgi h4 20 1)).toNatClampNeg) h4).bind fun q6 =>
    some q6
set_option maxRecDepth 20000 in
set_option maxHeartbeats 4000000 in
theorem t_X0_takeBack {g : mG} {l : Launch} (hg : mOK g) (p0 : Nat) (hp0 : mkn g p0 6) (h : mH) : mf g l 1 mX0_takeBack (fun r : mH => ((none : Option Value), r)) [.ref (mad g 20), .ref (mad g p0)] h (x_X0_takeBack p0 h) := by
  refine mf_of (by decide) (Nat.le_of_ble_eq_true rfl) ?_
  show mw g l 1 mX0_takeBack (fun r : mH => ((none : Option Value), r)) 0 [(0, .ref (mad g 20)), (1, .ref (mad g p0))] [] h _
  unfold x_X0_takeBack
  refine mw_aload_n (n := 1) (q := 0) dX0_takeBack_0 rfl rfl rfl ?_
  refine mw_geti (n := 4) (a := 20) (k := 2) cl0 (mkl hg (by decide) (by rfl)) (by decide) rfl rfl fl_X0_26 dX0_takeBack_1 rfl ?_
  refine mw_if_le (n := 7) (t := 52) dX0_takeBack_4 rfl (by decide) Iff.rfl (fun c1 => ?_) (fun c1 => ?_)
  · exact mw_vret dX0_takeBack_52 rfl rfl
  · refine mw_aload_n (n := 8) (q := 0) dX0_takeBack_7 rfl rfl rfl ?_
    refine mw_aload_n (n := 9) (q := 0) dX0_takeBack_8 rfl rfl rfl ?_
    refine mw_geti (n := 12) (a := 20) (k := 1) cl0 (mkl hg (by decide) (by rfl)) (by decide) rfl rfl fl_X0_18 dX0_takeBack_9 rfl ?_
    refine mw_cutJ (pc' := 26) (lv' := [(0, .ref (mad g 20)), (1, .ref (mad g p0))]) (st' := [.int (if (mgi h 20 1) ≤ 0 then (13 : Int32) else ((mgi h 20 1) - (1 : Int32))), .ref (mad g 20)]) (fun J => ?_) ?_
    · refine mw_if_le_m (n := 15) (t := 24) dX0_takeBack_12 rfl (by decide) (fun c2 => ?_) (fun c2 => ?_)
      · refine mw_bipush (n := 26) (v := 13) dX0_takeBack_24 rfl (by decide) ?_
        exact mw_topeq (if_pos c2).symm J
      · refine mw_aload_n (n := 16) (q := 0) dX0_takeBack_15 rfl rfl rfl ?_
        refine mw_geti (n := 19) (a := 20) (k := 1) cl0 (mkl hg (by decide) (by rfl)) (by decide) rfl rfl fl_X0_18 dX0_takeBack_16 rfl ?_
        refine mw_iconst (n := 20) (v := 1) dX0_takeBack_19 rfl (by decide) ?_
        refine mw_isub (n := 21) dX0_takeBack_20 rfl ?_
        refine mw_goto (n := 26) dX0_takeBack_21 (by decide) ?_
        exact mw_topeq (if_neg c2).symm J
    refine mw_puti (n := 29) (a := 20) (k := 1) cl0 ct0 (mkl hg (by decide) (by rfl)) (by decide) rfl rfl rfl rfl fl_X0_18 dX0_takeBack_26 rfl (mw_leth (fun h3 => ?_))
    refine mw_aload_n (n := 30) (q := 0) dX0_takeBack_29 rfl rfl rfl ?_
    refine mw_dup (n := 31) dX0_takeBack_30 rfl rfl ?_
    refine mw_geti (n := 34) (a := 20) (k := 2) cl0 (mkl hg (by decide) (by rfl)) (by decide) rfl rfl fl_X0_26 dX0_takeBack_31 rfl ?_
    refine mw_iconst (n := 35) (v := 1) dX0_takeBack_34 rfl (by decide) ?_
    refine mw_isub (n := 36) dX0_takeBack_35 rfl ?_
    refine mw_puti (n := 39) (a := 20) (k := 2) cl0 ct0 (mkl hg (by decide) (by rfl)) (by decide) rfl rfl rfl rfl fl_X0_26 dX0_takeBack_36 rfl (mw_leth (fun h4 => ?_))
    refine mw_aload_n (n := 40) (q := 1) dX0_takeBack_39 rfl rfl rfl ?_
    refine mw_aload_n (n := 41) (q := 0) dX0_takeBack_40 rfl rfl rfl ?_
    refine mw_getr (n := 44) (a := 20) (k := 0) cl0 (mkl hg (by decide) (by rfl)) (by decide) rfl rfl fl_X0_11 dX0_takeBack_41 rfl ?_
    refine mw_aload_n (n := 45) (q := 0) dX0_takeBack_44 rfl rfl rfl ?_
    refine mw_geti (n := 48) (a := 20) (k := 1) cl0 (mkl hg (by decide) (by rfl)) (by decide) rfl rfl fl_X0_18 dX0_takeBack_45 rfl ?_
    refine mw_aald60 (n := 49) (a := 21) (mkl hg (by decide) (by rfl)) dX0_takeBack_48 rfl (fun hi5 => ?_)
    refine mw_callV (n := 52) (a := p0) (As := [.ref (mad g (22 + 3 * ((mgi h4 20 1)).toNatClampNeg))]) cl6 hp0 (t_X6_become hg p0 (22 + 3 * ((mgi h4 20 1)).toNatClampNeg) hp0 (mkA60 hg hi5) h4) (by decide) ok_X6_become rfl rfl lk_X0_22 im_X6_become se_X6_become dX0_takeBack_49 rfl rfl (Nat.le_of_ble_eq_true rfl) (fun q6 _ => ?_)
    show mw g l _ _ _ 52 _ [] q6 _
    exact mw_vret dX0_takeBack_52 rfl rfl
noncomputable def x_X3_orderRows_58 (N : Nat) (self2 : Int32 → mH → Option (mH)) (r1 : Nat) (v2 : Int32) (v3 : Int32) (h : mH) : Option (mH) :=
  mck v3 4 <|
  mlet (msi h 65 (v3).toNatClampNeg v2) fun h1 =>
  self2 (v2 + (1 : Int32)) h1
set_option maxRecDepth 20000 in
set_option maxHeartbeats 4000000 in
theorem b_X3_orderRows_58 {g : mG} {l : Launch} (hg : mOK g) (N : Nat) (r1 : Nat) (v2 : Int32) (v3 : Int32) (self2 : Int32 → mH → Option (mH)) (hself2 : ∀ (v2 : Int32) (h : mH), mw g l 1 mX3_orderRows (fun r : mH => ((none : Option Value), r)) 2 [(0, .ref (mad g 64)), (1, .ref (mad g r1)), (2, .int v2)] [] h (self2 v2 h)) (hr1 : mkn g r1 6) (h : mH) : mw g l 1 mX3_orderRows (fun r : mH => ((none : Option Value), r)) 58 [(0, .ref (mad g 64)), (1, .ref (mad g r1)), (2, .int v2), (3, .int v3)] [] h (x_X3_orderRows_58 N self2 r1 v2 v3 h) := by
  unfold x_X3_orderRows_58
  refine mw_aload_n (n := 59) (q := 0) dX3_orderRows_58 rfl rfl rfl ?_
  refine mw_getr (n := 62) (a := 64) (k := 0) cl3 (mkl hg (by decide) (by rfl)) (by decide) rfl rfl fl_X3_9 dX3_orderRows_59 rfl ?_
  refine mw_iload_n (n := 63) (q := 3) dX3_orderRows_62 rfl rfl rfl ?_
  refine mw_iload_n (n := 64) (q := 2) dX3_orderRows_63 rfl rfl rfl ?_
  refine mw_iast (n := 65) (a := 65) (N := 4) (mkl hg (by decide) (by rfl)) dX3_orderRows_64 rfl (mw_leth (fun h1 => ?_))
  refine mw_iinc (n := 68) (q := 2) (v := (v2 + (1 : Int32))) dX3_orderRows_65 rfl rfl rfl (by decide) rfl ?_
  refine mw_goto (n := 2) dX3_orderRows_68 (by decide) ?_
  refine mw_sub [1, 2, 0] rfl ?_
  exact hself2 (v2 + (1 : Int32)) h1
noncomputable def x_X3_orderRows_12 (N : Nat) (self2 : Int32 → mH → Option (mH)) (r1 : Nat) (v2 : Int32) (f : Nat) : Int32 → mH → Option (mH) :=
  Nat.rec (motive := fun _ => Int32 → mH → Option (mH)) (fun _ _ => none) (fun _ self12 => fun v3 h => 
    if v3 ≤ 0 then
      x_X3_orderRows_58 N self2 r1 v2 v3 h
    else
      mck (v3 - (1 : Int32)) 4 <|
      (x_X6_totalOf r1 (0 : Int32) (mgi h 65 ((v3 - (1 : Int32))).toNatClampNeg) h).bind fun q2 =>
      (x_X6_totalOf r1 (0 : Int32) v2 h).bind fun q3 =>
      if q3 ≤ q2 then
        x_X3_orderRows_58 N self2 r1 v2 v3 h
      else
        mck (v3 - (1 : Int32)) 4 <|
        mck v3 4 <|
        mlet (msi h 65 (v3).toNatClampNeg (mgi h 65 ((v3 - (1 : Int32))).toNatClampNeg)) fun h5 =>
        self12 (v3 + (-1 : Int32)) h5) f
theorem x_X3_orderRows_12_0 (N : Nat) (self2 : Int32 → mH → Option (mH)) (r1 : Nat) (v2 : Int32) (v3 : Int32) (h : mH) : x_X3_orderRows_12 N self2 r1 v2 0 v3 h = none := rfl
theorem x_X3_orderRows_12_s (N : Nat) (self2 : Int32 → mH → Option (mH)) (r1 : Nat) (v2 : Int32) (f : Nat) (v3 : Int32) (h : mH) : x_X3_orderRows_12 N self2 r1 v2 (f + 1) v3 h = (
    if v3 ≤ 0 then
      x_X3_orderRows_58 N self2 r1 v2 v3 h
    else
      mck (v3 - (1 : Int32)) 4 <|
      (x_X6_totalOf r1 (0 : Int32) (mgi h 65 ((v3 - (1 : Int32))).toNatClampNeg) h).bind fun q2 =>
      (x_X6_totalOf r1 (0 : Int32) v2 h).bind fun q3 =>
      if q3 ≤ q2 then
        x_X3_orderRows_58 N self2 r1 v2 v3 h
      else
        mck (v3 - (1 : Int32)) 4 <|
        mck v3 4 <|
        mlet (msi h 65 (v3).toNatClampNeg (mgi h 65 ((v3 - (1 : Int32))).toNatClampNeg)) fun h5 =>
        (x_X3_orderRows_12 N self2 r1 v2 f) (v3 + (-1 : Int32)) h5) := rfl
set_option maxRecDepth 20000 in
set_option maxHeartbeats 4000000 in
theorem b_X3_orderRows_12 {g : mG} {l : Launch} (hg : mOK g) (N : Nat) (r1 : Nat) (v2 : Int32) (self2 : Int32 → mH → Option (mH)) (hself2 : ∀ (v2 : Int32) (h : mH), mw g l 1 mX3_orderRows (fun r : mH => ((none : Option Value), r)) 2 [(0, .ref (mad g 64)), (1, .ref (mad g r1)), (2, .int v2)] [] h (self2 v2 h)) (hr1 : mkn g r1 6) (f : Nat) : ∀ (v3 : Int32) (h : mH), mw g l 1 mX3_orderRows (fun r : mH => ((none : Option Value), r)) 12 [(0, .ref (mad g 64)), (1, .ref (mad g r1)), (2, .int v2), (3, .int v3)] [] h (x_X3_orderRows_12 N self2 r1 v2 f v3 h) := by
  induction f with
  | zero => intros; exact mw_none
  | succ f hself12 =>
    intro v3 h
    refine mw_eq (x_X3_orderRows_12_s N self2 r1 v2 f v3 h) ?_
    generalize x_X3_orderRows_12 N self2 r1 v2 f = self12 at hself12 ⊢
    refine mw_iload_n (n := 13) (q := 3) dX3_orderRows_12 rfl rfl rfl ?_
    refine mw_if_le (n := 16) (t := 58) dX3_orderRows_13 rfl (by decide) Iff.rfl (fun c1 => ?_) (fun c1 => ?_)
    · exact b_X3_orderRows_58 hg N r1 v2 v3 self2 hself2 hr1 h
    · refine mw_aload_n (n := 17) (q := 1) dX3_orderRows_16 rfl rfl rfl ?_
      refine mw_iconst (n := 18) (v := 0) dX3_orderRows_17 rfl (by decide) ?_
      refine mw_aload_n (n := 19) (q := 0) dX3_orderRows_18 rfl rfl rfl ?_
      refine mw_getr (n := 22) (a := 64) (k := 0) cl3 (mkl hg (by decide) (by rfl)) (by decide) rfl rfl fl_X3_9 dX3_orderRows_19 rfl ?_
      refine mw_iload_n (n := 23) (q := 3) dX3_orderRows_22 rfl rfl rfl ?_
      refine mw_iconst (n := 24) (v := 1) dX3_orderRows_23 rfl (by decide) ?_
      refine mw_isub (n := 25) dX3_orderRows_24 rfl ?_
      refine mw_iald (n := 26) (a := 65) (N := 4) (mkl hg (by decide) (by rfl)) dX3_orderRows_25 rfl ?_
      refine mw_callV (n := 29) (a := r1) (As := [.int (0 : Int32), .int (mgi h 65 ((v3 - (1 : Int32))).toNatClampNeg)]) cl6 hr1 (t_X6_totalOf hg r1 (0 : Int32) (mgi h 65 ((v3 - (1 : Int32))).toNatClampNeg) hr1 h) (by decide) ok_X6_totalOf rfl rfl lk_X3_32 im_X6_totalOf se_X6_totalOf dX3_orderRows_26 rfl rfl (Nat.le_of_ble_eq_true rfl) (fun q2 _ => ?_)
      show mw g l _ _ _ 29 _ [.int q2] h _
      refine mw_aload_n (n := 30) (q := 1) dX3_orderRows_29 rfl rfl rfl ?_
      refine mw_iconst (n := 31) (v := 0) dX3_orderRows_30 rfl (by decide) ?_
      refine mw_iload_n (n := 32) (q := 2) dX3_orderRows_31 rfl rfl rfl ?_
      refine mw_callV (n := 35) (a := r1) (As := [.int (0 : Int32), .int v2]) cl6 hr1 (t_X6_totalOf hg r1 (0 : Int32) v2 hr1 h) (by decide) ok_X6_totalOf rfl rfl lk_X3_32 im_X6_totalOf se_X6_totalOf dX3_orderRows_32 rfl rfl (Nat.le_of_ble_eq_true rfl) (fun q3 _ => ?_)
      show mw g l _ _ _ 35 _ [.int q3, .int q2] h _
      refine mw_icmp_ge (n := 38) (t := 58) dX3_orderRows_35 rfl (by decide) Iff.rfl (fun c4 => ?_) (fun c4 => ?_)
      · exact b_X3_orderRows_58 hg N r1 v2 v3 self2 hself2 hr1 h
      · refine mw_aload_n (n := 39) (q := 0) dX3_orderRows_38 rfl rfl rfl ?_
        refine mw_getr (n := 42) (a := 64) (k := 0) cl3 (mkl hg (by decide) (by rfl)) (by decide) rfl rfl fl_X3_9 dX3_orderRows_39 rfl ?_
        refine mw_iload_n (n := 43) (q := 3) dX3_orderRows_42 rfl rfl rfl ?_
        refine mw_aload_n (n := 44) (q := 0) dX3_orderRows_43 rfl rfl rfl ?_
        refine mw_getr (n := 47) (a := 64) (k := 0) cl3 (mkl hg (by decide) (by rfl)) (by decide) rfl rfl fl_X3_9 dX3_orderRows_44 rfl ?_
        refine mw_iload_n (n := 48) (q := 3) dX3_orderRows_47 rfl rfl rfl ?_
        refine mw_iconst (n := 49) (v := 1) dX3_orderRows_48 rfl (by decide) ?_
        refine mw_isub (n := 50) dX3_orderRows_49 rfl ?_
        refine mw_iald (n := 51) (a := 65) (N := 4) (mkl hg (by decide) (by rfl)) dX3_orderRows_50 rfl ?_
        refine mw_iast (n := 52) (a := 65) (N := 4) (mkl hg (by decide) (by rfl)) dX3_orderRows_51 rfl (mw_leth (fun h5 => ?_))
        refine mw_iinc (n := 55) (q := 3) (v := (v3 + (-1 : Int32))) dX3_orderRows_52 rfl rfl rfl (by decide) rfl ?_
        refine mw_goto (n := 12) dX3_orderRows_55 (by decide) ?_
        refine mw_sub [1, 2, 3, 0] rfl ?_
        exact hself12 (v3 + (-1 : Int32)) h5
noncomputable def x_X3_orderRows_2 (N : Nat) (r1 : Nat) (f : Nat) : Int32 → mH → Option (mH) :=
  Nat.rec (motive := fun _ => Int32 → mH → Option (mH)) (fun _ _ => none) (fun _ self2 => fun v2 h => 
    if (mgi h r1 0) ≤ v2 then
      some h
    else
      x_X3_orderRows_12 N self2 r1 v2 N v2 h) f
theorem x_X3_orderRows_2_0 (N : Nat) (r1 : Nat) (v2 : Int32) (h : mH) : x_X3_orderRows_2 N r1 0 v2 h = none := rfl
theorem x_X3_orderRows_2_s (N : Nat) (r1 : Nat) (f : Nat) (v2 : Int32) (h : mH) : x_X3_orderRows_2 N r1 (f + 1) v2 h = (
    if (mgi h r1 0) ≤ v2 then
      some h
    else
      x_X3_orderRows_12 N (x_X3_orderRows_2 N r1 f) r1 v2 N v2 h) := rfl
set_option maxRecDepth 20000 in
set_option maxHeartbeats 4000000 in
theorem b_X3_orderRows_2 {g : mG} {l : Launch} (hg : mOK g) (N : Nat) (r1 : Nat) (hr1 : mkn g r1 6) (f : Nat) : ∀ (v2 : Int32) (h : mH), mw g l 1 mX3_orderRows (fun r : mH => ((none : Option Value), r)) 2 [(0, .ref (mad g 64)), (1, .ref (mad g r1)), (2, .int v2)] [] h (x_X3_orderRows_2 N r1 f v2 h) := by
  induction f with
  | zero => intros; exact mw_none
  | succ f hself2 =>
    intro v2 h
    refine mw_eq (x_X3_orderRows_2_s N r1 f v2 h) ?_
    generalize x_X3_orderRows_2 N r1 f = self2 at hself2 ⊢
    refine mw_iload_n (n := 3) (q := 2) dX3_orderRows_2 rfl rfl rfl ?_
    refine mw_aload_n (n := 4) (q := 1) dX3_orderRows_3 rfl rfl rfl ?_
    refine mw_geti (n := 7) (a := r1) (k := 0) cl6 hr1 (by decide) rfl rfl fl_X3_28 dX3_orderRows_4 rfl ?_
    refine mw_icmp_ge (n := 10) (t := 71) dX3_orderRows_7 rfl (by decide) Iff.rfl (fun c1 => ?_) (fun c1 => ?_)
    · exact mw_vret dX3_orderRows_71 rfl rfl
    · refine mw_iload_n (n := 11) (q := 2) dX3_orderRows_10 rfl rfl rfl ?_
      refine mw_istore_n (n := 12) dX3_orderRows_11 rfl rfl (by decide) rfl ?_
      refine mw_sub [1, 2, 3, 0] rfl ?_
      exact b_X3_orderRows_12 hg N r1 v2 self2 hself2 hr1 N v2 h
noncomputable def x_X3_orderRows (N : Nat) (p0 : Nat) (h : mH) : Option (mH) :=
  x_X3_orderRows_2 N p0 N (0 : Int32) h
set_option maxRecDepth 20000 in
set_option maxHeartbeats 4000000 in
theorem t_X3_orderRows {g : mG} {l : Launch} (hg : mOK g) (N : Nat) (p0 : Nat) (hp0 : mkn g p0 6) (h : mH) : mf g l 1 mX3_orderRows (fun r : mH => ((none : Option Value), r)) [.ref (mad g 64), .ref (mad g p0)] h (x_X3_orderRows N p0 h) := by
  refine mf_of (by decide) (Nat.le_of_ble_eq_true rfl) ?_
  show mw g l 1 mX3_orderRows (fun r : mH => ((none : Option Value), r)) 0 [(0, .ref (mad g 64)), (1, .ref (mad g p0))] [] h _
  unfold x_X3_orderRows
  refine mw_iconst (n := 1) (v := 0) dX3_orderRows_0 rfl (by decide) ?_
  refine mw_istore_n (n := 2) dX3_orderRows_1 rfl rfl (by decide) rfl ?_
  refine mw_sub [1, 2, 0] rfl ?_
  exact b_X3_orderRows_2 hg N p0 hp0 N (0 : Int32) h
noncomputable def x_X3_roomOf_4 (N : Nat) (r0 : Nat) (v1 : Int32) (h : mH) (f : Nat) : Int32 → Int32 → Option (Int32) :=
  Nat.rec (motive := fun _ => Int32 → Int32 → Option (Int32)) (fun _ _ => none) (fun _ self4 => fun v2 v3 => 
    if (mgi h r0 1) ≤ v3 then
      some v2
    else
      (x_X6_totalOf r0 (1 : Int32) v3 h).bind fun q2 =>
      (x_J9_min_7cf53 v1 q2).bind fun q3 =>
      mlet (v2 + q3) fun u4 =>
      self4 u4 (v3 + (1 : Int32))) f
theorem x_X3_roomOf_4_0 (N : Nat) (r0 : Nat) (v1 : Int32) (h : mH) (v2 : Int32) (v3 : Int32) : x_X3_roomOf_4 N r0 v1 h 0 v2 v3 = none := rfl
theorem x_X3_roomOf_4_s (N : Nat) (r0 : Nat) (v1 : Int32) (h : mH) (f : Nat) (v2 : Int32) (v3 : Int32) : x_X3_roomOf_4 N r0 v1 h (f + 1) v2 v3 = (
    if (mgi h r0 1) ≤ v3 then
      some v2
    else
      (x_X6_totalOf r0 (1 : Int32) v3 h).bind fun q2 =>
      (x_J9_min_7cf53 v1 q2).bind fun q3 =>
      mlet (v2 + q3) fun u4 =>
      (x_X3_roomOf_4 N r0 v1 h f) u4 (v3 + (1 : Int32))) := rfl
set_option maxRecDepth 20000 in
set_option maxHeartbeats 4000000 in
theorem b_X3_roomOf_4 {g : mG} {l : Launch} (hg : mOK g) (N : Nat) (r0 : Nat) (v1 : Int32) (h : mH) (hr0 : mkn g r0 6) (f : Nat) : ∀ (v2 : Int32) (v3 : Int32), mw g l 1 mX3_roomOf (fun r : Int32 => (some (Value.int r), h)) 4 [(0, .ref (mad g r0)), (1, .int v1), (2, .int v2), (3, .int v3)] [] h (x_X3_roomOf_4 N r0 v1 h f v2 v3) := by
  induction f with
  | zero => intros; exact mw_none
  | succ f hself4 =>
    intro v2 v3
    refine mw_eq (x_X3_roomOf_4_s N r0 v1 h f v2 v3) ?_
    generalize x_X3_roomOf_4 N r0 v1 h f = self4 at hself4 ⊢
    refine mw_iload_n (n := 5) (q := 3) dX3_roomOf_4 rfl rfl rfl ?_
    refine mw_aload_n (n := 6) (q := 0) dX3_roomOf_5 rfl rfl rfl ?_
    refine mw_geti (n := 9) (a := r0) (k := 1) cl6 hr0 (by decide) rfl rfl fl_X3_40 dX3_roomOf_6 rfl ?_
    refine mw_icmp_ge (n := 12) (t := 31) dX3_roomOf_9 rfl (by decide) Iff.rfl (fun c1 => ?_) (fun c1 => ?_)
    · refine mw_iload_n (n := 32) (q := 2) dX3_roomOf_31 rfl rfl rfl ?_
      exact mw_iret dX3_roomOf_32 rfl rfl
    · refine mw_iload_n (n := 13) (q := 2) dX3_roomOf_12 rfl rfl rfl ?_
      refine mw_iload_n (n := 14) (q := 1) dX3_roomOf_13 rfl rfl rfl ?_
      refine mw_aload_n (n := 15) (q := 0) dX3_roomOf_14 rfl rfl rfl ?_
      refine mw_iconst (n := 16) (v := 1) dX3_roomOf_15 rfl (by decide) ?_
      refine mw_iload_n (n := 17) (q := 3) dX3_roomOf_16 rfl rfl rfl ?_
      refine mw_callV (n := 20) (a := r0) (As := [.int (1 : Int32), .int v3]) cl6 hr0 (t_X6_totalOf hg r0 (1 : Int32) v3 hr0 h) (by decide) ok_X6_totalOf rfl rfl lk_X3_32 im_X6_totalOf se_X6_totalOf dX3_roomOf_17 rfl rfl (Nat.le_of_ble_eq_true rfl) (fun q2 _ => ?_)
      show mw g l _ _ _ 20 _ [.int q2, .int v1, .int v2] h _
      refine mw_callS (n := 23) (As := [.int v1, .int q2]) (t_J9_min_7cf53 v1 q2 h) (by decide) ok_J9_min_7cf53 rfl lk_X3_43 sm_J9_min_7cf53 dX3_roomOf_20 rfl rfl (Nat.le_of_ble_eq_true rfl) (fun q3 _ => ?_)
      show mw g l _ _ _ 23 _ [.int q3, .int v2] h _
      refine mw_iadd (n := 24) dX3_roomOf_23 rfl ?_
      refine mw_letI (fun u4 => ?_)
      refine mw_istore_n (n := 25) dX3_roomOf_24 rfl rfl (by decide) rfl ?_
      refine mw_iinc (n := 28) (q := 3) (v := (v3 + (1 : Int32))) dX3_roomOf_25 rfl rfl rfl (by decide) rfl ?_
      refine mw_goto (n := 4) dX3_roomOf_28 (by decide) ?_
      refine mw_sub [2, 3, 1, 0] rfl ?_
      exact hself4 u4 (v3 + (1 : Int32))
noncomputable def x_X3_roomOf (N : Nat) (p0 : Nat) (p1 : Int32) (h : mH) : Option (Int32) :=
  x_X3_roomOf_4 N p0 p1 h N (0 : Int32) (0 : Int32)
set_option maxRecDepth 20000 in
set_option maxHeartbeats 4000000 in
theorem t_X3_roomOf {g : mG} {l : Launch} (hg : mOK g) (N : Nat) (p0 : Nat) (p1 : Int32) (hp0 : mkn g p0 6) (h : mH) : mf g l 1 mX3_roomOf (fun r : Int32 => (some (Value.int r), h)) [.ref (mad g p0), .int p1] h (x_X3_roomOf N p0 p1 h) := by
  refine mf_of (by decide) (Nat.le_of_ble_eq_true rfl) ?_
  show mw g l 1 mX3_roomOf (fun r : Int32 => (some (Value.int r), h)) 0 [(0, .ref (mad g p0)), (1, .int p1)] [] h _
  unfold x_X3_roomOf
  refine mw_iconst (n := 1) (v := 0) dX3_roomOf_0 rfl (by decide) ?_
  refine mw_istore_n (n := 2) dX3_roomOf_1 rfl rfl (by decide) rfl ?_
  refine mw_iconst (n := 3) (v := 0) dX3_roomOf_2 rfl (by decide) ?_
  refine mw_istore_n (n := 4) dX3_roomOf_3 rfl rfl (by decide) rfl ?_
  refine mw_sub [2, 3, 1, 0] rfl ?_
  exact b_X3_roomOf_4 hg N p0 p1 h hp0 N (0 : Int32) (0 : Int32)
noncomputable def x_X3_failsAt_24 (N : Nat) (r1 : Nat) (f : Nat) : Int32 → Int32 → mH → Option (Int32 × mH) :=
  Nat.rec (motive := fun _ => Int32 → Int32 → mH → Option (Int32 × mH)) (fun _ _ _ => none) (fun _ self24 => fun v2 v3 h => 
    if (mgi h r1 0) < v3 then
      some ((-9 : Int32), h)
    else
      mck (v3 - (1 : Int32)) 4 <|
      (x_X6_totalOf r1 (0 : Int32) (mgi h 65 ((v3 - (1 : Int32))).toNatClampNeg) h).bind fun q2 =>
      mlet (v2 + q2) fun u3 =>
      (x_X3_roomOf N r1 v3 h).bind fun q4 =>
      if u3 ≤ q4 then
        self24 u3 (v3 + (1 : Int32)) h
      else
        some (v3, h)) f
theorem x_X3_failsAt_24_0 (N : Nat) (r1 : Nat) (v2 : Int32) (v3 : Int32) (h : mH) : x_X3_failsAt_24 N r1 0 v2 v3 h = none := rfl
theorem x_X3_failsAt_24_s (N : Nat) (r1 : Nat) (f : Nat) (v2 : Int32) (v3 : Int32) (h : mH) : x_X3_failsAt_24 N r1 (f + 1) v2 v3 h = (
    if (mgi h r1 0) < v3 then
      some ((-9 : Int32), h)
    else
      mck (v3 - (1 : Int32)) 4 <|
      (x_X6_totalOf r1 (0 : Int32) (mgi h 65 ((v3 - (1 : Int32))).toNatClampNeg) h).bind fun q2 =>
      mlet (v2 + q2) fun u3 =>
      (x_X3_roomOf N r1 v3 h).bind fun q4 =>
      if u3 ≤ q4 then
        (x_X3_failsAt_24 N r1 f) u3 (v3 + (1 : Int32)) h
      else
        some (v3, h)) := rfl
set_option maxRecDepth 20000 in
set_option maxHeartbeats 4000000 in
theorem b_X3_failsAt_24 {g : mG} {l : Launch} (hg : mOK g) (N : Nat) (r1 : Nat) (hr1 : mkn g r1 6) (f : Nat) : ∀ (v2 : Int32) (v3 : Int32) (h : mH), mw g l 2 mX3_failsAt (fun r : Int32 × mH => (some (Value.int r.1), r.2)) 24 [(0, .ref (mad g 64)), (1, .ref (mad g r1)), (2, .int v2), (3, .int v3)] [] h (x_X3_failsAt_24 N r1 f v2 v3 h) := by
  induction f with
  | zero => intros; exact mw_none
  | succ f hself24 =>
    intro v2 v3 h
    refine mw_eq (x_X3_failsAt_24_s N r1 f v2 v3 h) ?_
    generalize x_X3_failsAt_24 N r1 f = self24 at hself24 ⊢
    refine mw_iload_n (n := 25) (q := 3) dX3_failsAt_24 rfl rfl rfl ?_
    refine mw_aload_n (n := 26) (q := 1) dX3_failsAt_25 rfl rfl rfl ?_
    refine mw_geti (n := 29) (a := r1) (k := 0) cl6 hr1 (by decide) rfl rfl fl_X3_28 dX3_failsAt_26 rfl ?_
    refine mw_icmp_gt (n := 32) (t := 65) dX3_failsAt_29 rfl (by decide) Iff.rfl (fun c1 => ?_) (fun c1 => ?_)
    · refine mw_bipush (n := 67) (v := -9) dX3_failsAt_65 rfl (by decide) ?_
      exact mw_iret dX3_failsAt_67 rfl rfl
    · refine mw_iload_n (n := 33) (q := 2) dX3_failsAt_32 rfl rfl rfl ?_
      refine mw_aload_n (n := 34) (q := 1) dX3_failsAt_33 rfl rfl rfl ?_
      refine mw_iconst (n := 35) (v := 0) dX3_failsAt_34 rfl (by decide) ?_
      refine mw_aload_n (n := 36) (q := 0) dX3_failsAt_35 rfl rfl rfl ?_
      refine mw_getr (n := 39) (a := 64) (k := 0) cl3 (mkl hg (by decide) (by rfl)) (by decide) rfl rfl fl_X3_9 dX3_failsAt_36 rfl ?_
      refine mw_iload_n (n := 40) (q := 3) dX3_failsAt_39 rfl rfl rfl ?_
      refine mw_iconst (n := 41) (v := 1) dX3_failsAt_40 rfl (by decide) ?_
      refine mw_isub (n := 42) dX3_failsAt_41 rfl ?_
      refine mw_iald (n := 43) (a := 65) (N := 4) (mkl hg (by decide) (by rfl)) dX3_failsAt_42 rfl ?_
      refine mw_callV (n := 46) (a := r1) (As := [.int (0 : Int32), .int (mgi h 65 ((v3 - (1 : Int32))).toNatClampNeg)]) cl6 hr1 (t_X6_totalOf hg r1 (0 : Int32) (mgi h 65 ((v3 - (1 : Int32))).toNatClampNeg) hr1 h) (by decide) ok_X6_totalOf rfl rfl lk_X3_32 im_X6_totalOf se_X6_totalOf dX3_failsAt_43 rfl rfl (Nat.le_of_ble_eq_true rfl) (fun q2 _ => ?_)
      show mw g l _ _ _ 46 _ [.int q2, .int v2] h _
      refine mw_iadd (n := 47) dX3_failsAt_46 rfl ?_
      refine mw_letI (fun u3 => ?_)
      refine mw_istore_n (n := 48) dX3_failsAt_47 rfl rfl (by decide) rfl ?_
      refine mw_iload_n (n := 49) (q := 0) dX3_failsAt_48 rfl rfl rfl ?_
      refine mw_aload_n (n := 50) (q := 2) dX3_failsAt_49 rfl rfl rfl ?_
      refine mw_iload_n (n := 51) (q := 3) dX3_failsAt_50 rfl rfl rfl ?_
      refine mw_callS (n := 54) (As := [.ref (mad g r1), .int v3]) (t_X3_roomOf hg N r1 v3 hr1 h) (by decide) ok_X3_roomOf rfl lk_X3_36 sm_X3_roomOf dX3_failsAt_51 rfl rfl (Nat.le_of_ble_eq_true rfl) (fun q4 _ => ?_)
      show mw g l _ _ _ 54 _ [.int q4, .int u3] h _
      refine mw_icmp_le (n := 57) (t := 59) dX3_failsAt_54 rfl (by decide) Iff.rfl (fun c5 => ?_) (fun c5 => ?_)
      · refine mw_iinc (n := 62) (q := 3) (v := (v3 + (1 : Int32))) dX3_failsAt_59 rfl rfl rfl (by decide) rfl ?_
        refine mw_goto (n := 24) dX3_failsAt_62 (by decide) ?_
        refine mw_sub [2, 3, 1, 0] rfl ?_
        exact hself24 u3 (v3 + (1 : Int32)) h
      · refine mw_iload_n (n := 58) (q := 3) dX3_failsAt_57 rfl rfl rfl ?_
        exact mw_iret dX3_failsAt_58 rfl rfl
noncomputable def x_X3_failsAt (N : Nat) (p0 : Nat) (h : mH) : Option (Int32 × mH) :=
  (x_X6_together N p0 (0 : Int32) h).bind fun q1 =>
  (x_X6_together N p0 (1 : Int32) h).bind fun q2 =>
  if q1 = q2 then
    (x_X3_orderRows N p0 h).bind fun q4 =>
    x_X3_failsAt_24 N p0 N (0 : Int32) (1 : Int32) q4
  else
    some ((0 : Int32), h)
set_option maxRecDepth 20000 in
set_option maxHeartbeats 4000000 in
theorem t_X3_failsAt {g : mG} {l : Launch} (hg : mOK g) (N : Nat) (p0 : Nat) (hp0 : mkn g p0 6) (h : mH) : mf g l 2 mX3_failsAt (fun r : Int32 × mH => (some (Value.int r.1), r.2)) [.ref (mad g 64), .ref (mad g p0)] h (x_X3_failsAt N p0 h) := by
  refine mf_of (by decide) (Nat.le_of_ble_eq_true rfl) ?_
  show mw g l 2 mX3_failsAt (fun r : Int32 × mH => (some (Value.int r.1), r.2)) 0 [(0, .ref (mad g 64)), (1, .ref (mad g p0))] [] h _
  unfold x_X3_failsAt
  refine mw_aload_n (n := 1) (q := 1) dX3_failsAt_0 rfl rfl rfl ?_
  refine mw_iconst (n := 2) (v := 0) dX3_failsAt_1 rfl (by decide) ?_
  refine mw_callV (n := 5) (a := p0) (As := [.int (0 : Int32)]) cl6 hp0 (t_X6_together hg N p0 (0 : Int32) hp0 h) (by decide) ok_X6_together rfl rfl lk_X3_18 im_X6_together se_X6_together dX3_failsAt_2 rfl rfl (Nat.le_of_ble_eq_true rfl) (fun q1 _ => ?_)
  show mw g l _ _ _ 5 _ [.int q1] h _
  refine mw_aload_n (n := 6) (q := 1) dX3_failsAt_5 rfl rfl rfl ?_
  refine mw_iconst (n := 7) (v := 1) dX3_failsAt_6 rfl (by decide) ?_
  refine mw_callV (n := 10) (a := p0) (As := [.int (1 : Int32)]) cl6 hp0 (t_X6_together hg N p0 (1 : Int32) hp0 h) (by decide) ok_X6_together rfl rfl lk_X3_18 im_X6_together se_X6_together dX3_failsAt_7 rfl rfl (Nat.le_of_ble_eq_true rfl) (fun q2 _ => ?_)
  show mw g l _ _ _ 10 _ [.int q2, .int q1] h _
  refine mw_icmp_eq (n := 13) (t := 15) dX3_failsAt_10 rfl (by decide) Iff.rfl (fun c3 => ?_) (fun c3 => ?_)
  · refine mw_aload_n (n := 16) (q := 0) dX3_failsAt_15 rfl rfl rfl ?_
    refine mw_aload_n (n := 17) (q := 1) dX3_failsAt_16 rfl rfl rfl ?_
    refine mw_callV (n := 20) (a := 64) (As := [.ref (mad g p0)]) cl3 (mkl hg (by decide) (by rfl)) (t_X3_orderRows hg N p0 hp0 h) (by decide) ok_X3_orderRows rfl rfl lk_X3_24 im_X3_orderRows se_X3_orderRows dX3_failsAt_17 rfl rfl (Nat.le_of_ble_eq_true rfl) (fun q4 _ => ?_)
    show mw g l _ _ _ 20 _ [] q4 _
    refine mw_iconst (n := 21) (v := 0) dX3_failsAt_20 rfl (by decide) ?_
    refine mw_istore_n (n := 22) dX3_failsAt_21 rfl rfl (by decide) rfl ?_
    refine mw_iconst (n := 23) (v := 1) dX3_failsAt_22 rfl (by decide) ?_
    refine mw_istore_n (n := 24) dX3_failsAt_23 rfl rfl (by decide) rfl ?_
    refine mw_sub [2, 3, 1, 0] rfl ?_
    exact b_X3_failsAt_24 hg N p0 hp0 N (0 : Int32) (1 : Int32) q4
  · refine mw_iconst (n := 14) (v := 0) dX3_failsAt_13 rfl (by decide) ?_
    exact mw_iret dX3_failsAt_14 rfl rfl
noncomputable def x_X3_chooseColumns_109 (N : Nat) (self5 : Int32 → Int32 → mH → Option (Int32 × mH)) (r1 : Nat) (v2 : Int32) (v3 : Int32) (v4 : Int32) (h : mH) : Option (Int32 × mH) :=
  self5 v3 (v4 + (1 : Int32)) h
set_option maxRecDepth 20000 in
set_option maxHeartbeats 4000000 in
theorem b_X3_chooseColumns_109 {g : mG} {l : Launch} (hg : mOK g) (N : Nat) (r1 : Nat) (v2 : Int32) (v3 : Int32) (v4 : Int32) (self5 : Int32 → Int32 → mH → Option (Int32 × mH)) (hself5 : ∀ (v3 : Int32) (v4 : Int32) (h : mH), mw g l 1 mX3_chooseColumns (fun r : Int32 × mH => (some (Value.int r.1), r.2)) 5 [(0, .ref (mad g 64)), (1, .ref (mad g r1)), (2, .int v2), (3, .int v3), (4, .int v4)] [] h (self5 v3 v4 h)) (hr1 : mkn g r1 6) (h : mH) : mw g l 1 mX3_chooseColumns (fun r : Int32 × mH => (some (Value.int r.1), r.2)) 109 [(0, .ref (mad g 64)), (1, .ref (mad g r1)), (2, .int v2), (3, .int v3), (4, .int v4)] [] h (x_X3_chooseColumns_109 N self5 r1 v2 v3 v4 h) := by
  unfold x_X3_chooseColumns_109
  refine mw_iinc (n := 112) (q := 4) (v := (v4 + (1 : Int32))) dX3_chooseColumns_109 rfl rfl rfl (by decide) rfl ?_
  refine mw_goto (n := 5) dX3_chooseColumns_112 (by decide) ?_
  refine mw_sub [1, 2, 3, 4, 0] rfl ?_
  exact hself5 v3 (v4 + (1 : Int32)) h
noncomputable def x_X3_chooseColumns_77 (N : Nat) (self5 : Int32 → Int32 → mH → Option (Int32 × mH)) (self18 : Int32 → Int32 → mH → Option (Int32 × mH)) (r1 : Nat) (v2 : Int32) (v3 : Int32) (v4 : Int32) (v5 : Int32) (v6 : Int32) (h : mH) : Option (Int32 × mH) :=
  self18 v5 (v6 + (1 : Int32)) h
set_option maxRecDepth 20000 in
set_option maxHeartbeats 4000000 in
theorem b_X3_chooseColumns_77 {g : mG} {l : Launch} (hg : mOK g) (N : Nat) (r1 : Nat) (v2 : Int32) (v3 : Int32) (v4 : Int32) (v5 : Int32) (v6 : Int32) (self5 : Int32 → Int32 → mH → Option (Int32 × mH)) (hself5 : ∀ (v3 : Int32) (v4 : Int32) (h : mH), mw g l 1 mX3_chooseColumns (fun r : Int32 × mH => (some (Value.int r.1), r.2)) 5 [(0, .ref (mad g 64)), (1, .ref (mad g r1)), (2, .int v2), (3, .int v3), (4, .int v4)] [] h (self5 v3 v4 h)) (self18 : Int32 → Int32 → mH → Option (Int32 × mH)) (hself18 : ∀ (v5 : Int32) (v6 : Int32) (h : mH), mw g l 1 mX3_chooseColumns (fun r : Int32 × mH => (some (Value.int r.1), r.2)) 18 [(0, .ref (mad g 64)), (1, .ref (mad g r1)), (2, .int v2), (3, .int v3), (4, .int v4), (5, .int v5), (6, .int v6)] [] h (self18 v5 v6 h)) (hr1 : mkn g r1 6) (h : mH) : mw g l 1 mX3_chooseColumns (fun r : Int32 × mH => (some (Value.int r.1), r.2)) 77 [(0, .ref (mad g 64)), (1, .ref (mad g r1)), (2, .int v2), (3, .int v3), (4, .int v4), (5, .int v5), (6, .int v6)] [] h (x_X3_chooseColumns_77 N self5 self18 r1 v2 v3 v4 v5 v6 h) := by
  unfold x_X3_chooseColumns_77
  refine mw_iinc (n := 80) (q := 6) (v := (v6 + (1 : Int32))) dX3_chooseColumns_77 rfl rfl rfl (by decide) rfl ?_
  refine mw_goto (n := 18) dX3_chooseColumns_80 (by decide) ?_
  refine mw_sub [1, 2, 3, 4, 5, 6, 0] rfl ?_
  exact hself18 v5 (v6 + (1 : Int32)) h
noncomputable def x_X3_chooseColumns_73 (N : Nat) (self5 : Int32 → Int32 → mH → Option (Int32 × mH)) (self18 : Int32 → Int32 → mH → Option (Int32 × mH)) (r1 : Nat) (v2 : Int32) (v3 : Int32) (v4 : Int32) (v6 : Int32) (h : mH) : Option (Int32 × mH) :=
  x_X3_chooseColumns_77 N self5 self18 r1 v2 v3 v4 v6 v6 h
set_option maxRecDepth 20000 in
set_option maxHeartbeats 4000000 in
theorem b_X3_chooseColumns_73 {g : mG} {l : Launch} (hg : mOK g) (N : Nat) (r1 : Nat) (v2 : Int32) (v3 : Int32) (v4 : Int32) (v6 : Int32) (self5 : Int32 → Int32 → mH → Option (Int32 × mH)) (hself5 : ∀ (v3 : Int32) (v4 : Int32) (h : mH), mw g l 1 mX3_chooseColumns (fun r : Int32 × mH => (some (Value.int r.1), r.2)) 5 [(0, .ref (mad g 64)), (1, .ref (mad g r1)), (2, .int v2), (3, .int v3), (4, .int v4)] [] h (self5 v3 v4 h)) (self18 : Int32 → Int32 → mH → Option (Int32 × mH)) (hself18 : ∀ (v5 : Int32) (v6 : Int32) (h : mH), mw g l 1 mX3_chooseColumns (fun r : Int32 × mH => (some (Value.int r.1), r.2)) 18 [(0, .ref (mad g 64)), (1, .ref (mad g r1)), (2, .int v2), (3, .int v3), (4, .int v4), (5, .int v5), (6, .int v6)] [] h (self18 v5 v6 h)) (hr1 : mkn g r1 6) (h : mH) : mw g l 1 mX3_chooseColumns (fun r : Int32 × mH => (some (Value.int r.1), r.2)) 73 [(0, .ref (mad g 64)), (1, .ref (mad g r1)), (2, .int v2), (3, .int v3), (4, .int v4), (6, .int v6)] [] h (x_X3_chooseColumns_73 N self5 self18 r1 v2 v3 v4 v6 h) := by
  unfold x_X3_chooseColumns_73
  refine mw_iload (n := 75) (q := 5) dX3_chooseColumns_73 rfl rfl ?_
  refine mw_istore (n := 77) dX3_chooseColumns_75 rfl (by decide) rfl ?_
  refine mw_sub [1, 2, 3, 4, 5, 0, 6] rfl ?_
  exact b_X3_chooseColumns_77 hg N r1 v2 v3 v4 v6 v6 self5 hself5 self18 hself18 hr1 h
noncomputable def x_X3_chooseColumns_18 (N : Nat) (self5 : Int32 → Int32 → mH → Option (Int32 × mH)) (r1 : Nat) (v2 : Int32) (v3 : Int32) (v4 : Int32) (f : Nat) : Int32 → Int32 → mH → Option (Int32 × mH) :=
  Nat.rec (motive := fun _ => Int32 → Int32 → mH → Option (Int32 × mH)) (fun _ _ _ => none) (fun _ self18 => fun v5 v6 h => 
    if (mgi h r1 1) ≤ v6 then
      if v5 = (-9 : Int32) then
        x_X3_chooseColumns_109 N self5 r1 v2 v3 v4 h
      else
        (x_X8_columnBit v5).bind fun q3 =>
        mlet (v3 ||| q3) fun u4 =>
        mck v5 5 <|
        mck v5 5 <|
        mlet (msi h 66 (v5).toNatClampNeg ((mgi h 66 (v5).toNatClampNeg) - (1 : Int32))) fun h5 =>
        x_X3_chooseColumns_109 N self5 r1 v2 u4 v4 h5
    else
      (x_X8_columnBit v6).bind fun q6 =>
      mlet (if ¬ (v3 &&& q6) = 0 then (0 : Int32) else (1 : Int32)) fun u8 =>
      if u8 = 0 then
        x_X3_chooseColumns_77 N self5 self18 r1 v2 v3 v4 v5 v6 h
      else
        if v5 = (-9 : Int32) then
          x_X3_chooseColumns_73 N self5 self18 r1 v2 v3 v4 v6 h
        else
          mck v6 5 <|
          mck v5 5 <|
          if (mgi h 66 (v6).toNatClampNeg) ≤ (mgi h 66 (v5).toNatClampNeg) then
            x_X3_chooseColumns_77 N self5 self18 r1 v2 v3 v4 v5 v6 h
          else
            x_X3_chooseColumns_73 N self5 self18 r1 v2 v3 v4 v6 h) f
theorem x_X3_chooseColumns_18_0 (N : Nat) (self5 : Int32 → Int32 → mH → Option (Int32 × mH)) (r1 : Nat) (v2 : Int32) (v3 : Int32) (v4 : Int32) (v5 : Int32) (v6 : Int32) (h : mH) : x_X3_chooseColumns_18 N self5 r1 v2 v3 v4 0 v5 v6 h = none := rfl
theorem x_X3_chooseColumns_18_s (N : Nat) (self5 : Int32 → Int32 → mH → Option (Int32 × mH)) (r1 : Nat) (v2 : Int32) (v3 : Int32) (v4 : Int32) (f : Nat) (v5 : Int32) (v6 : Int32) (h : mH) : x_X3_chooseColumns_18 N self5 r1 v2 v3 v4 (f + 1) v5 v6 h = (
    if (mgi h r1 1) ≤ v6 then
      if v5 = (-9 : Int32) then
        x_X3_chooseColumns_109 N self5 r1 v2 v3 v4 h
      else
        (x_X8_columnBit v5).bind fun q3 =>
        mlet (v3 ||| q3) fun u4 =>
        mck v5 5 <|
        mck v5 5 <|
        mlet (msi h 66 (v5).toNatClampNeg ((mgi h 66 (v5).toNatClampNeg) - (1 : Int32))) fun h5 =>
        x_X3_chooseColumns_109 N self5 r1 v2 u4 v4 h5
    else
      (x_X8_columnBit v6).bind fun q6 =>
      mlet (if ¬ (v3 &&& q6) = 0 then (0 : Int32) else (1 : Int32)) fun u8 =>
      if u8 = 0 then
        x_X3_chooseColumns_77 N self5 (x_X3_chooseColumns_18 N self5 r1 v2 v3 v4 f) r1 v2 v3 v4 v5 v6 h
      else
        if v5 = (-9 : Int32) then
          x_X3_chooseColumns_73 N self5 (x_X3_chooseColumns_18 N self5 r1 v2 v3 v4 f) r1 v2 v3 v4 v6 h
        else
          mck v6 5 <|
          mck v5 5 <|
          if (mgi h 66 (v6).toNatClampNeg) ≤ (mgi h 66 (v5).toNatClampNeg) then
            x_X3_chooseColumns_77 N self5 (x_X3_chooseColumns_18 N self5 r1 v2 v3 v4 f) r1 v2 v3 v4 v5 v6 h
          else
            x_X3_chooseColumns_73 N self5 (x_X3_chooseColumns_18 N self5 r1 v2 v3 v4 f) r1 v2 v3 v4 v6 h) := rfl
set_option maxRecDepth 20000 in
set_option maxHeartbeats 4000000 in
theorem b_X3_chooseColumns_18 {g : mG} {l : Launch} (hg : mOK g) (N : Nat) (r1 : Nat) (v2 : Int32) (v3 : Int32) (v4 : Int32) (self5 : Int32 → Int32 → mH → Option (Int32 × mH)) (hself5 : ∀ (v3 : Int32) (v4 : Int32) (h : mH), mw g l 1 mX3_chooseColumns (fun r : Int32 × mH => (some (Value.int r.1), r.2)) 5 [(0, .ref (mad g 64)), (1, .ref (mad g r1)), (2, .int v2), (3, .int v3), (4, .int v4)] [] h (self5 v3 v4 h)) (hr1 : mkn g r1 6) (f : Nat) : ∀ (v5 : Int32) (v6 : Int32) (h : mH), mw g l 1 mX3_chooseColumns (fun r : Int32 × mH => (some (Value.int r.1), r.2)) 18 [(0, .ref (mad g 64)), (1, .ref (mad g r1)), (2, .int v2), (3, .int v3), (4, .int v4), (5, .int v5), (6, .int v6)] [] h (x_X3_chooseColumns_18 N self5 r1 v2 v3 v4 f v5 v6 h) := by
  induction f with
  | zero => intros; exact mw_none
  | succ f hself18 =>
    intro v5 v6 h
    refine mw_eq (x_X3_chooseColumns_18_s N self5 r1 v2 v3 v4 f v5 v6 h) ?_
    generalize x_X3_chooseColumns_18 N self5 r1 v2 v3 v4 f = self18 at hself18 ⊢
    refine mw_iload (n := 20) (q := 6) dX3_chooseColumns_18 rfl rfl ?_
    refine mw_aload_n (n := 21) (q := 1) dX3_chooseColumns_20 rfl rfl rfl ?_
    refine mw_geti (n := 24) (a := r1) (k := 1) cl6 hr1 (by decide) rfl rfl fl_X3_40 dX3_chooseColumns_21 rfl ?_
    refine mw_icmp_ge (n := 27) (t := 83) dX3_chooseColumns_24 rfl (by decide) Iff.rfl (fun c1 => ?_) (fun c1 => ?_)
    · refine mw_iload (n := 85) (q := 5) dX3_chooseColumns_83 rfl rfl ?_
      refine mw_bipush (n := 87) (v := -9) dX3_chooseColumns_85 rfl (by decide) ?_
      refine mw_icmp_eq (n := 90) (t := 109) dX3_chooseColumns_87 rfl (by decide) Iff.rfl (fun c2 => ?_) (fun c2 => ?_)
      · refine mw_sub [0, 1, 2, 3, 4] rfl ?_
        exact b_X3_chooseColumns_109 hg N r1 v2 v3 v4 self5 hself5 hr1 h
      · refine mw_iload_n (n := 91) (q := 3) dX3_chooseColumns_90 rfl rfl rfl ?_
        refine mw_iload (n := 93) (q := 5) dX3_chooseColumns_91 rfl rfl ?_
        refine mw_callN (n := 96) (As := [.int v5]) (t_X8_columnBit hg v5 h) (by decide) ok_X8_columnBit rfl ln_X3_54 sm_X8_columnBit dX3_chooseColumns_93 rfl rfl (Nat.le_of_ble_eq_true rfl) (fun q3 _ => ?_)
        show mw g l _ _ _ 96 _ [.int q3, .int v3] h _
        refine mw_ior (n := 97) dX3_chooseColumns_96 rfl ?_
        refine mw_letI (fun u4 => ?_)
        refine mw_istore_n (n := 98) dX3_chooseColumns_97 rfl rfl (by decide) rfl ?_
        refine mw_aload_n (n := 99) (q := 1) dX3_chooseColumns_98 rfl rfl rfl ?_
        refine mw_getr (n := 102) (a := 64) (k := 1) cl3 (mkl hg (by decide) (by rfl)) (by decide) rfl rfl fl_X3_15 dX3_chooseColumns_99 rfl ?_
        refine mw_iload (n := 104) (q := 5) dX3_chooseColumns_102 rfl rfl ?_
        refine mw_dup2 (n := 105) dX3_chooseColumns_104 rfl rfl rfl ?_
        refine mw_iald (n := 106) (a := 66) (N := 5) (mkl hg (by decide) (by rfl)) dX3_chooseColumns_105 rfl ?_
        refine mw_iconst (n := 107) (v := 1) dX3_chooseColumns_106 rfl (by decide) ?_
        refine mw_isub (n := 108) dX3_chooseColumns_107 rfl ?_
        refine mw_iast (n := 109) (a := 66) (N := 5) (mkl hg (by decide) (by rfl)) dX3_chooseColumns_108 rfl (mw_leth (fun h5 => ?_))
        refine mw_sub [1, 2, 3, 0, 4] rfl ?_
        exact b_X3_chooseColumns_109 hg N r1 v2 u4 v4 self5 hself5 hr1 h5
    · refine mw_iload_n (n := 28) (q := 3) dX3_chooseColumns_27 rfl rfl rfl ?_
      refine mw_iload (n := 30) (q := 6) dX3_chooseColumns_28 rfl rfl ?_
      refine mw_callN (n := 33) (As := [.int v6]) (t_X8_columnBit hg v6 h) (by decide) ok_X8_columnBit rfl ln_X3_54 sm_X8_columnBit dX3_chooseColumns_30 rfl rfl (Nat.le_of_ble_eq_true rfl) (fun q6 _ => ?_)
      show mw g l _ _ _ 33 _ [.int q6, .int v3] h _
      refine mw_iand (n := 34) dX3_chooseColumns_33 rfl ?_
      refine mw_cutJ (pc' := 42) (lv' := [(0, .ref (mad g 64)), (1, .ref (mad g r1)), (2, .int v2), (3, .int v3), (4, .int v4), (5, .int v5), (6, .int v6)]) (st' := [.int (if ¬ (v3 &&& q6) = 0 then (0 : Int32) else (1 : Int32))]) (fun J => ?_) ?_
      · refine mw_if_ne_m (n := 37) (t := 41) dX3_chooseColumns_34 rfl (by decide) (fun c7 => ?_) (fun c7 => ?_)
        · refine mw_iconst (n := 42) (v := 0) dX3_chooseColumns_41 rfl (by decide) ?_
          exact mw_topeq (if_pos c7).symm J
        · refine mw_iconst (n := 38) (v := 1) dX3_chooseColumns_37 rfl (by decide) ?_
          refine mw_goto (n := 42) dX3_chooseColumns_38 (by decide) ?_
          exact mw_topeq (if_neg c7).symm J
      refine mw_letI (fun u8 => ?_)
      refine mw_istore (n := 44) dX3_chooseColumns_42 rfl (by decide) rfl ?_
      refine mw_iload (n := 46) (q := 0) dX3_chooseColumns_44 rfl rfl ?_
      refine mw_if_eq (n := 49) (t := 77) dX3_chooseColumns_46 rfl (by decide) Iff.rfl (fun c9 => ?_) (fun c9 => ?_)
      · refine mw_sub [1, 2, 3, 4, 5, 6, 7] rfl ?_
        exact b_X3_chooseColumns_77 hg N r1 v2 v3 v4 v5 v6 self5 hself5 self18 hself18 hr1 h
      · refine mw_iload (n := 51) (q := 6) dX3_chooseColumns_49 rfl rfl ?_
        refine mw_bipush (n := 53) (v := -9) dX3_chooseColumns_51 rfl (by decide) ?_
        refine mw_icmp_eq (n := 56) (t := 73) dX3_chooseColumns_53 rfl (by decide) Iff.rfl (fun c10 => ?_) (fun c10 => ?_)
        · refine mw_sub [1, 2, 3, 4, 5, 7] rfl ?_
          exact b_X3_chooseColumns_73 hg N r1 v2 v3 v4 v6 self5 hself5 self18 hself18 hr1 h
        · refine mw_aload_n (n := 57) (q := 1) dX3_chooseColumns_56 rfl rfl rfl ?_
          refine mw_getr (n := 60) (a := 64) (k := 1) cl3 (mkl hg (by decide) (by rfl)) (by decide) rfl rfl fl_X3_15 dX3_chooseColumns_57 rfl ?_
          refine mw_iload (n := 62) (q := 7) dX3_chooseColumns_60 rfl rfl ?_
          refine mw_iald (n := 63) (a := 66) (N := 5) (mkl hg (by decide) (by rfl)) dX3_chooseColumns_62 rfl ?_
          refine mw_aload_n (n := 64) (q := 1) dX3_chooseColumns_63 rfl rfl rfl ?_
          refine mw_getr (n := 67) (a := 64) (k := 1) cl3 (mkl hg (by decide) (by rfl)) (by decide) rfl rfl fl_X3_15 dX3_chooseColumns_64 rfl ?_
          refine mw_iload (n := 69) (q := 6) dX3_chooseColumns_67 rfl rfl ?_
          refine mw_iald (n := 70) (a := 66) (N := 5) (mkl hg (by decide) (by rfl)) dX3_chooseColumns_69 rfl ?_
          refine mw_icmp_le (n := 73) (t := 77) dX3_chooseColumns_70 rfl (by decide) Iff.rfl (fun c11 => ?_) (fun c11 => ?_)
          · refine mw_sub [1, 2, 3, 4, 5, 6, 7] rfl ?_
            exact b_X3_chooseColumns_77 hg N r1 v2 v3 v4 v5 v6 self5 hself5 self18 hself18 hr1 h
          · refine mw_sub [1, 2, 3, 4, 5, 7] rfl ?_
            exact b_X3_chooseColumns_73 hg N r1 v2 v3 v4 v6 self5 hself5 self18 hself18 hr1 h
noncomputable def x_X3_chooseColumns_5 (N : Nat) (r1 : Nat) (v2 : Int32) (f : Nat) : Int32 → Int32 → mH → Option (Int32 × mH) :=
  Nat.rec (motive := fun _ => Int32 → Int32 → mH → Option (Int32 × mH)) (fun _ _ _ => none) (fun _ self5 => fun v3 v4 h => 
    if v2 ≤ v4 then
      some (v3, h)
    else
      x_X3_chooseColumns_18 N self5 r1 v2 v3 v4 N (-9 : Int32) (0 : Int32) h) f
theorem x_X3_chooseColumns_5_0 (N : Nat) (r1 : Nat) (v2 : Int32) (v3 : Int32) (v4 : Int32) (h : mH) : x_X3_chooseColumns_5 N r1 v2 0 v3 v4 h = none := rfl
theorem x_X3_chooseColumns_5_s (N : Nat) (r1 : Nat) (v2 : Int32) (f : Nat) (v3 : Int32) (v4 : Int32) (h : mH) : x_X3_chooseColumns_5 N r1 v2 (f + 1) v3 v4 h = (
    if v2 ≤ v4 then
      some (v3, h)
    else
      x_X3_chooseColumns_18 N (x_X3_chooseColumns_5 N r1 v2 f) r1 v2 v3 v4 N (-9 : Int32) (0 : Int32) h) := rfl
set_option maxRecDepth 20000 in
set_option maxHeartbeats 4000000 in
theorem b_X3_chooseColumns_5 {g : mG} {l : Launch} (hg : mOK g) (N : Nat) (r1 : Nat) (v2 : Int32) (hr1 : mkn g r1 6) (f : Nat) : ∀ (v3 : Int32) (v4 : Int32) (h : mH), mw g l 1 mX3_chooseColumns (fun r : Int32 × mH => (some (Value.int r.1), r.2)) 5 [(0, .ref (mad g 64)), (1, .ref (mad g r1)), (2, .int v2), (3, .int v3), (4, .int v4)] [] h (x_X3_chooseColumns_5 N r1 v2 f v3 v4 h) := by
  induction f with
  | zero => intros; exact mw_none
  | succ f hself5 =>
    intro v3 v4 h
    refine mw_eq (x_X3_chooseColumns_5_s N r1 v2 f v3 v4 h) ?_
    generalize x_X3_chooseColumns_5 N r1 v2 f = self5 at hself5 ⊢
    refine mw_iload (n := 7) (q := 4) dX3_chooseColumns_5 rfl rfl ?_
    refine mw_iload_n (n := 8) (q := 2) dX3_chooseColumns_7 rfl rfl rfl ?_
    refine mw_icmp_ge (n := 11) (t := 115) dX3_chooseColumns_8 rfl (by decide) Iff.rfl (fun c1 => ?_) (fun c1 => ?_)
    · refine mw_iload_n (n := 116) (q := 3) dX3_chooseColumns_115 rfl rfl rfl ?_
      exact mw_iret dX3_chooseColumns_116 rfl rfl
    · refine mw_bipush (n := 13) (v := -9) dX3_chooseColumns_11 rfl (by decide) ?_
      refine mw_istore (n := 15) dX3_chooseColumns_13 rfl (by decide) rfl ?_
      refine mw_iconst (n := 16) (v := 0) dX3_chooseColumns_15 rfl (by decide) ?_
      refine mw_istore (n := 18) dX3_chooseColumns_16 rfl (by decide) rfl ?_
      refine mw_sub [2, 3, 4, 5, 6, 1, 0] rfl ?_
      exact b_X3_chooseColumns_18 hg N r1 v2 v3 v4 self5 hself5 hr1 N (-9 : Int32) (0 : Int32) h
noncomputable def x_X3_chooseColumns (N : Nat) (p0 : Nat) (p1 : Int32) (h : mH) : Option (Int32 × mH) :=
  x_X3_chooseColumns_5 N p0 p1 N (0 : Int32) (0 : Int32) h
set_option maxRecDepth 20000 in
set_option maxHeartbeats 4000000 in
theorem t_X3_chooseColumns {g : mG} {l : Launch} (hg : mOK g) (N : Nat) (p0 : Nat) (p1 : Int32) (hp0 : mkn g p0 6) (h : mH) : mf g l 1 mX3_chooseColumns (fun r : Int32 × mH => (some (Value.int r.1), r.2)) [.ref (mad g 64), .ref (mad g p0), .int p1] h (x_X3_chooseColumns N p0 p1 h) := by
  refine mf_of (by decide) (Nat.le_of_ble_eq_true rfl) ?_
  show mw g l 1 mX3_chooseColumns (fun r : Int32 × mH => (some (Value.int r.1), r.2)) 0 [(0, .ref (mad g 64)), (1, .ref (mad g p0)), (2, .int p1)] [] h _
  unfold x_X3_chooseColumns
  refine mw_iconst (n := 1) (v := 0) dX3_chooseColumns_0 rfl (by decide) ?_
  refine mw_istore_n (n := 2) dX3_chooseColumns_1 rfl rfl (by decide) rfl ?_
  refine mw_iconst (n := 3) (v := 0) dX3_chooseColumns_2 rfl (by decide) ?_
  refine mw_istore (n := 5) dX3_chooseColumns_3 rfl (by decide) rfl ?_
  refine mw_sub [2, 3, 4, 1, 0] rfl ?_
  exact b_X3_chooseColumns_5 hg N p0 p1 hp0 N (0 : Int32) (0 : Int32) h
noncomputable def x_X3_fill_37 (N : Nat) (r1 : Nat) (f : Nat) : Int32 → Int32 → mH → Option (Int32 × mH) :=
  Nat.rec (motive := fun _ => Int32 → Int32 → mH → Option (Int32 × mH)) (fun _ _ _ => none) (fun _ self37 => fun v2 v3 h => 
    if (mgi h r1 0) ≤ v3 then
      some (v2, h)
    else
      mck v3 4 <|
      (x_X6_totalOf r1 (0 : Int32) (mgi h 65 (v3).toNatClampNeg) h).bind fun q2 =>
      (x_X3_chooseColumns N r1 q2 h).bind fun q3 =>
      mlet q3.1 fun u4 =>
      mck v3 4 <|
      (x_X6_placed r1 u4 (mgi q3.2 65 (v3).toNatClampNeg) q3.2).bind fun q5 =>
      mlet (v2 ||| q5) fun u6 =>
      self37 u6 (v3 + (1 : Int32)) q3.2) f
theorem x_X3_fill_37_0 (N : Nat) (r1 : Nat) (v2 : Int32) (v3 : Int32) (h : mH) : x_X3_fill_37 N r1 0 v2 v3 h = none := rfl
theorem x_X3_fill_37_s (N : Nat) (r1 : Nat) (f : Nat) (v2 : Int32) (v3 : Int32) (h : mH) : x_X3_fill_37 N r1 (f + 1) v2 v3 h = (
    if (mgi h r1 0) ≤ v3 then
      some (v2, h)
    else
      mck v3 4 <|
      (x_X6_totalOf r1 (0 : Int32) (mgi h 65 (v3).toNatClampNeg) h).bind fun q2 =>
      (x_X3_chooseColumns N r1 q2 h).bind fun q3 =>
      mlet q3.1 fun u4 =>
      mck v3 4 <|
      (x_X6_placed r1 u4 (mgi q3.2 65 (v3).toNatClampNeg) q3.2).bind fun q5 =>
      mlet (v2 ||| q5) fun u6 =>
      (x_X3_fill_37 N r1 f) u6 (v3 + (1 : Int32)) q3.2) := rfl
set_option maxRecDepth 20000 in
set_option maxHeartbeats 4000000 in
theorem b_X3_fill_37 {g : mG} {l : Launch} (hg : mOK g) (N : Nat) (r1 : Nat) (hr1 : mkn g r1 6) (f : Nat) : ∀ (v2 : Int32) (v3 : Int32) (h : mH), mw g l 2 mX3_fill (fun r : Int32 × mH => (some (Value.int r.1), r.2)) 37 [(0, .ref (mad g 64)), (1, .ref (mad g r1)), (2, .int v2), (3, .int v3)] [] h (x_X3_fill_37 N r1 f v2 v3 h) := by
  induction f with
  | zero => intros; exact mw_none
  | succ f hself37 =>
    intro v2 v3 h
    refine mw_eq (x_X3_fill_37_s N r1 f v2 v3 h) ?_
    generalize x_X3_fill_37 N r1 f = self37 at hself37 ⊢
    refine mw_iload_n (n := 38) (q := 3) dX3_fill_37 rfl rfl rfl ?_
    refine mw_aload_n (n := 39) (q := 1) dX3_fill_38 rfl rfl rfl ?_
    refine mw_geti (n := 42) (a := r1) (k := 0) cl6 hr1 (by decide) rfl rfl fl_X3_28 dX3_fill_39 rfl ?_
    refine mw_icmp_ge (n := 45) (t := 84) dX3_fill_42 rfl (by decide) Iff.rfl (fun c1 => ?_) (fun c1 => ?_)
    · refine mw_iload_n (n := 85) (q := 2) dX3_fill_84 rfl rfl rfl ?_
      exact mw_iret dX3_fill_85 rfl rfl
    · refine mw_aload_n (n := 46) (q := 0) dX3_fill_45 rfl rfl rfl ?_
      refine mw_aload_n (n := 47) (q := 1) dX3_fill_46 rfl rfl rfl ?_
      refine mw_aload_n (n := 48) (q := 1) dX3_fill_47 rfl rfl rfl ?_
      refine mw_iconst (n := 49) (v := 0) dX3_fill_48 rfl (by decide) ?_
      refine mw_aload_n (n := 50) (q := 0) dX3_fill_49 rfl rfl rfl ?_
      refine mw_getr (n := 53) (a := 64) (k := 0) cl3 (mkl hg (by decide) (by rfl)) (by decide) rfl rfl fl_X3_9 dX3_fill_50 rfl ?_
      refine mw_iload_n (n := 54) (q := 3) dX3_fill_53 rfl rfl rfl ?_
      refine mw_iald (n := 55) (a := 65) (N := 4) (mkl hg (by decide) (by rfl)) dX3_fill_54 rfl ?_
      refine mw_callV (n := 58) (a := r1) (As := [.int (0 : Int32), .int (mgi h 65 (v3).toNatClampNeg)]) cl6 hr1 (t_X6_totalOf hg r1 (0 : Int32) (mgi h 65 (v3).toNatClampNeg) hr1 h) (by decide) ok_X6_totalOf rfl rfl lk_X3_32 im_X6_totalOf se_X6_totalOf dX3_fill_55 rfl rfl (Nat.le_of_ble_eq_true rfl) (fun q2 _ => ?_)
      show mw g l _ _ _ 58 _ [.int q2, .ref (mad g r1), .ref (mad g 64)] h _
      refine mw_callV (n := 61) (a := 64) (As := [.ref (mad g r1), .int q2]) cl3 (mkl hg (by decide) (by rfl)) (t_X3_chooseColumns hg N r1 q2 hr1 h) (by decide) ok_X3_chooseColumns rfl rfl lk_X3_48 im_X3_chooseColumns se_X3_chooseColumns dX3_fill_58 rfl rfl (Nat.le_of_ble_eq_true rfl) (fun q3 _ => ?_)
      show mw g l _ _ _ 61 _ [.int q3.1] q3.2 _
      refine mw_letI (fun u4 => ?_)
      refine mw_istore (n := 63) dX3_fill_61 rfl (by decide) rfl ?_
      refine mw_iload_n (n := 64) (q := 3) dX3_fill_63 rfl rfl rfl ?_
      refine mw_aload_n (n := 65) (q := 2) dX3_fill_64 rfl rfl rfl ?_
      refine mw_iload (n := 67) (q := 0) dX3_fill_65 rfl rfl ?_
      refine mw_aload_n (n := 68) (q := 1) dX3_fill_67 rfl rfl rfl ?_
      refine mw_getr (n := 71) (a := 64) (k := 0) cl3 (mkl hg (by decide) (by rfl)) (by decide) rfl rfl fl_X3_9 dX3_fill_68 rfl ?_
      refine mw_iload_n (n := 72) (q := 4) dX3_fill_71 rfl rfl rfl ?_
      refine mw_iald (n := 73) (a := 65) (N := 4) (mkl hg (by decide) (by rfl)) dX3_fill_72 rfl ?_
      refine mw_callV (n := 76) (a := r1) (As := [.int u4, .int (mgi q3.2 65 (v3).toNatClampNeg)]) cl6 hr1 (t_X6_placed hg r1 u4 (mgi q3.2 65 (v3).toNatClampNeg) hr1 q3.2) (by decide) ok_X6_placed rfl rfl lk_X3_51 im_X6_placed se_X6_placed dX3_fill_73 rfl rfl (Nat.le_of_ble_eq_true rfl) (fun q5 _ => ?_)
      show mw g l _ _ _ 76 _ [.int q5, .int v2] q3.2 _
      refine mw_ior (n := 77) dX3_fill_76 rfl ?_
      refine mw_letI (fun u6 => ?_)
      refine mw_istore_n (n := 78) dX3_fill_77 rfl rfl (by decide) rfl ?_
      refine mw_iinc (n := 81) (q := 4) (v := (v3 + (1 : Int32))) dX3_fill_78 rfl rfl rfl (by decide) rfl ?_
      refine mw_goto (n := 37) dX3_fill_81 (by decide) ?_
      refine mw_sub [3, 4, 1, 0] rfl ?_
      exact hself37 u6 (v3 + (1 : Int32)) q3.2
noncomputable def x_X3_fill_7 (N : Nat) (r1 : Nat) (f : Nat) : Int32 → mH → Option (Int32 × mH) :=
  Nat.rec (motive := fun _ => Int32 → mH → Option (Int32 × mH)) (fun _ _ => none) (fun _ self7 => fun v2 h => 
    if (mgi h r1 1) ≤ v2 then
      x_X3_fill_37 N r1 N (0 : Int32) (0 : Int32) h
    else
      (x_X6_totalOf r1 (1 : Int32) v2 h).bind fun q2 =>
      mck v2 5 <|
      mlet (msi h 66 (v2).toNatClampNeg q2) fun h3 =>
      self7 (v2 + (1 : Int32)) h3) f
theorem x_X3_fill_7_0 (N : Nat) (r1 : Nat) (v2 : Int32) (h : mH) : x_X3_fill_7 N r1 0 v2 h = none := rfl
theorem x_X3_fill_7_s (N : Nat) (r1 : Nat) (f : Nat) (v2 : Int32) (h : mH) : x_X3_fill_7 N r1 (f + 1) v2 h = (
    if (mgi h r1 1) ≤ v2 then
      x_X3_fill_37 N r1 N (0 : Int32) (0 : Int32) h
    else
      (x_X6_totalOf r1 (1 : Int32) v2 h).bind fun q2 =>
      mck v2 5 <|
      mlet (msi h 66 (v2).toNatClampNeg q2) fun h3 =>
      (x_X3_fill_7 N r1 f) (v2 + (1 : Int32)) h3) := rfl
set_option maxRecDepth 20000 in
set_option maxHeartbeats 4000000 in
theorem b_X3_fill_7 {g : mG} {l : Launch} (hg : mOK g) (N : Nat) (r1 : Nat) (hr1 : mkn g r1 6) (f : Nat) : ∀ (v2 : Int32) (h : mH), mw g l 2 mX3_fill (fun r : Int32 × mH => (some (Value.int r.1), r.2)) 7 [(0, .ref (mad g 64)), (1, .ref (mad g r1)), (2, .int v2)] [] h (x_X3_fill_7 N r1 f v2 h) := by
  induction f with
  | zero => intros; exact mw_none
  | succ f hself7 =>
    intro v2 h
    refine mw_eq (x_X3_fill_7_s N r1 f v2 h) ?_
    generalize x_X3_fill_7 N r1 f = self7 at hself7 ⊢
    refine mw_iload_n (n := 8) (q := 2) dX3_fill_7 rfl rfl rfl ?_
    refine mw_aload_n (n := 9) (q := 1) dX3_fill_8 rfl rfl rfl ?_
    refine mw_geti (n := 12) (a := r1) (k := 1) cl6 hr1 (by decide) rfl rfl fl_X3_40 dX3_fill_9 rfl ?_
    refine mw_icmp_ge (n := 15) (t := 33) dX3_fill_12 rfl (by decide) Iff.rfl (fun c1 => ?_) (fun c1 => ?_)
    · refine mw_iconst (n := 34) (v := 0) dX3_fill_33 rfl (by decide) ?_
      refine mw_istore_n (n := 35) dX3_fill_34 rfl rfl (by decide) rfl ?_
      refine mw_iconst (n := 36) (v := 0) dX3_fill_35 rfl (by decide) ?_
      refine mw_istore_n (n := 37) dX3_fill_36 rfl rfl (by decide) rfl ?_
      refine mw_sub [2, 3, 1, 0] rfl ?_
      exact b_X3_fill_37 hg N r1 hr1 N (0 : Int32) (0 : Int32) h
    · refine mw_aload_n (n := 16) (q := 0) dX3_fill_15 rfl rfl rfl ?_
      refine mw_getr (n := 19) (a := 64) (k := 1) cl3 (mkl hg (by decide) (by rfl)) (by decide) rfl rfl fl_X3_15 dX3_fill_16 rfl ?_
      refine mw_iload_n (n := 20) (q := 2) dX3_fill_19 rfl rfl rfl ?_
      refine mw_aload_n (n := 21) (q := 1) dX3_fill_20 rfl rfl rfl ?_
      refine mw_iconst (n := 22) (v := 1) dX3_fill_21 rfl (by decide) ?_
      refine mw_iload_n (n := 23) (q := 2) dX3_fill_22 rfl rfl rfl ?_
      refine mw_callV (n := 26) (a := r1) (As := [.int (1 : Int32), .int v2]) cl6 hr1 (t_X6_totalOf hg r1 (1 : Int32) v2 hr1 h) (by decide) ok_X6_totalOf rfl rfl lk_X3_32 im_X6_totalOf se_X6_totalOf dX3_fill_23 rfl rfl (Nat.le_of_ble_eq_true rfl) (fun q2 _ => ?_)
      show mw g l _ _ _ 26 _ [.int q2, .int v2, .ref (mad g 66)] h _
      refine mw_iast (n := 27) (a := 66) (N := 5) (mkl hg (by decide) (by rfl)) dX3_fill_26 rfl (mw_leth (fun h3 => ?_))
      refine mw_iinc (n := 30) (q := 2) (v := (v2 + (1 : Int32))) dX3_fill_27 rfl rfl rfl (by decide) rfl ?_
      refine mw_goto (n := 7) dX3_fill_30 (by decide) ?_
      refine mw_sub [1, 2, 0] rfl ?_
      exact hself7 (v2 + (1 : Int32)) h3
noncomputable def x_X3_fill (N : Nat) (p0 : Nat) (h : mH) : Option (Int32 × mH) :=
  (x_X3_orderRows N p0 h).bind fun q1 =>
  x_X3_fill_7 N p0 N (0 : Int32) q1
set_option maxRecDepth 20000 in
set_option maxHeartbeats 4000000 in
theorem t_X3_fill {g : mG} {l : Launch} (hg : mOK g) (N : Nat) (p0 : Nat) (hp0 : mkn g p0 6) (h : mH) : mf g l 2 mX3_fill (fun r : Int32 × mH => (some (Value.int r.1), r.2)) [.ref (mad g 64), .ref (mad g p0)] h (x_X3_fill N p0 h) := by
  refine mf_of (by decide) (Nat.le_of_ble_eq_true rfl) ?_
  show mw g l 2 mX3_fill (fun r : Int32 × mH => (some (Value.int r.1), r.2)) 0 [(0, .ref (mad g 64)), (1, .ref (mad g p0))] [] h _
  unfold x_X3_fill
  refine mw_aload_n (n := 1) (q := 0) dX3_fill_0 rfl rfl rfl ?_
  refine mw_aload_n (n := 2) (q := 1) dX3_fill_1 rfl rfl rfl ?_
  refine mw_callV (n := 5) (a := 64) (As := [.ref (mad g p0)]) cl3 (mkl hg (by decide) (by rfl)) (t_X3_orderRows hg N p0 hp0 h) (by decide) ok_X3_orderRows rfl rfl lk_X3_24 im_X3_orderRows se_X3_orderRows dX3_fill_2 rfl rfl (Nat.le_of_ble_eq_true rfl) (fun q1 _ => ?_)
  show mw g l _ _ _ 5 _ [] q1 _
  refine mw_iconst (n := 6) (v := 0) dX3_fill_5 rfl (by decide) ?_
  refine mw_istore_n (n := 7) dX3_fill_6 rfl rfl (by decide) rfl ?_
  refine mw_sub [1, 2, 0] rfl ?_
  exact b_X3_fill_7 hg N p0 hp0 N (0 : Int32) q1
