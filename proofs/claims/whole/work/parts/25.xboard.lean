noncomputable def x_X2_settle (N : Nat) (t : Nat) (h : mH) : Option (mH) :=
  (x_X1_listFor N (t + 4) (t + 1) h).bind fun q1 =>
  (x_X1_numberOf N (t + 4) (mgi q1 (t + 1) 6) q1).bind fun q2 =>
  if ¬ q2 = (-9 : Int32) then
    some q1
  else
    mlet (msi q1 (t + 1) 6 (if (mgi q1 (t + 4) 3) ≤ 0 then (-1 : Int32) else (mgi q1 ((t + 4) + 2) 0))) fun h5 =>
    some h5
set_option maxRecDepth 20000 in
set_option maxHeartbeats 4000000 in
theorem t_X2_settle {g : mG} {l : Launch} (hg : mOK g) (N : Nat) (t : Nat) (ht : mkn g t 2) (h : mH) : mf g l 9 mX2_settle (fun r : mH => ((none : Option Value), r)) [.ref (mad g t)] h (x_X2_settle N t h) := by
  refine mf_of (by decide) (Nat.le_of_ble_eq_true rfl) ?_
  show mw g l 9 mX2_settle (fun r : mH => ((none : Option Value), r)) 0 [(0, .ref (mad g t))] [] h _
  unfold x_X2_settle
  refine mw_aload_n (n := 1) (q := 0) dX2_settle_0 rfl rfl rfl ?_
  refine mw_getr (n := 4) (a := t) (k := 1) cl2 ht (by decide) rfl rfl fl_X2_21 dX2_settle_1 rfl ?_
  refine mw_aload_n (n := 5) (q := 0) dX2_settle_4 rfl rfl rfl ?_
  refine mw_getr (n := 8) (a := t) (k := 0) cl2 ht (by decide) rfl rfl fl_X2_12 dX2_settle_5 rfl ?_
  refine mw_callV (n := 11) (a := (t + 4)) (As := [.ref (mad g (t + 1))]) cl1 (mk2_4 hg ht) (t_X1_listFor hg N (t + 4) (t + 1) (mk2_4 hg ht) (mk2_1 hg ht) h) (by decide) ok_X1_listFor rfl rfl lk_X2_25 im_X1_listFor se_X1_listFor dX2_settle_8 rfl rfl (Nat.le_of_ble_eq_true rfl) (fun q1 _ => ?_)
  show mw g l _ _ _ 11 _ [] q1 _
  refine mw_aload_n (n := 12) (q := 0) dX2_settle_11 rfl rfl rfl ?_
  refine mw_getr (n := 15) (a := t) (k := 1) cl2 ht (by decide) rfl rfl fl_X2_21 dX2_settle_12 rfl ?_
  refine mw_aload_n (n := 16) (q := 0) dX2_settle_15 rfl rfl rfl ?_
  refine mw_getr (n := 19) (a := t) (k := 0) cl2 ht (by decide) rfl rfl fl_X2_12 dX2_settle_16 rfl ?_
  refine mw_geti (n := 22) (a := (t + 1)) (k := 6) cl6 (mk2_1 hg ht) (by decide) rfl rfl fl_X2_29 dX2_settle_19 rfl ?_
  refine mw_callV (n := 25) (a := (t + 4)) (As := [.int (mgi q1 (t + 1) 6)]) cl1 (mk2_4 hg ht) (t_X1_numberOf hg N (t + 4) (mgi q1 (t + 1) 6) (mk2_4 hg ht) q1) (by decide) ok_X1_numberOf rfl rfl lk_X2_33 im_X1_numberOf se_X1_numberOf dX2_settle_22 rfl rfl (Nat.le_of_ble_eq_true rfl) (fun q2 _ => ?_)
  show mw g l _ _ _ 25 _ [.int q2] q1 _
  refine mw_bipush (n := 27) (v := -9) dX2_settle_25 rfl (by decide) ?_
  refine mw_icmp_ne (n := 30) (t := 60) dX2_settle_27 rfl (by decide) Iff.rfl (fun c3 => ?_) (fun c3 => ?_)
  · exact mw_vret dX2_settle_60 rfl rfl
  · refine mw_aload_n (n := 31) (q := 0) dX2_settle_30 rfl rfl rfl ?_
    refine mw_getr (n := 34) (a := t) (k := 0) cl2 ht (by decide) rfl rfl fl_X2_12 dX2_settle_31 rfl ?_
    refine mw_aload_n (n := 35) (q := 0) dX2_settle_34 rfl rfl rfl ?_
    refine mw_getr (n := 38) (a := t) (k := 1) cl2 ht (by decide) rfl rfl fl_X2_21 dX2_settle_35 rfl ?_
    refine mw_geti (n := 41) (a := (t + 4)) (k := 3) cl1 (mk2_4 hg ht) (by decide) rfl rfl fl_X2_37 dX2_settle_38 rfl ?_
    refine mw_cutJ (pc' := 57) (lv' := [(0, .ref (mad g t))]) (st' := [.int (if (mgi q1 (t + 4) 3) ≤ 0 then (-1 : Int32) else (mgi q1 ((t + 4) + 2) 0)), .ref (mad g (t + 1))]) (fun J => ?_) ?_
    · refine mw_if_le_m (n := 44) (t := 56) dX2_settle_41 rfl (by decide) (fun c4 => ?_) (fun c4 => ?_)
      · refine mw_iconst (n := 57) (v := -1) dX2_settle_56 rfl (by decide) ?_
        exact mw_topeq (if_pos c4).symm J
      · refine mw_aload_n (n := 45) (q := 0) dX2_settle_44 rfl rfl rfl ?_
        refine mw_getr (n := 48) (a := t) (k := 1) cl2 ht (by decide) rfl rfl fl_X2_21 dX2_settle_45 rfl ?_
        refine mw_getr (n := 51) (a := (t + 4)) (k := 2) cl1 (mk2_4 hg ht) (by decide) rfl rfl fl_X2_40 dX2_settle_48 rfl ?_
        refine mw_iconst (n := 52) (v := 0) dX2_settle_51 rfl (by decide) ?_
        refine mw_iaLd (n := 53) (a := ((t + 4) + 2)) (j := 0) (N := 310) (mk1_2 hg (mk2_4 hg ht)) (by decide) (by decide) dX2_settle_52 rfl ?_
        refine mw_goto (n := 57) dX2_settle_53 (by decide) ?_
        exact mw_topeq (if_neg c4).symm J
    refine mw_puti (n := 60) (a := (t + 1)) (k := 6) cl6 ct6 (mk2_1 hg ht) (by decide) rfl rfl rfl rfl fl_X2_29 dX2_settle_57 rfl (mw_leth (fun h5 => ?_))
    exact mw_vret dX2_settle_60 rfl rfl
noncomputable def x_X2_planeAt (t : Nat) (p0 : Int32) (h : mH) : Option (Int32) :=
  if ¬ (mgi h (t + 1) 6) = (-1 : Int32) then
    (x_X8_yesIn (mgi h (t + 1) 6) p0).bind fun q2 =>
    some q2
  else
    some (-9 : Int32)
set_option maxRecDepth 20000 in
set_option maxHeartbeats 4000000 in
theorem t_X2_planeAt {g : mG} {l : Launch} (hg : mOK g) (t : Nat) (p0 : Int32) (ht : mkn g t 2) (h : mH) : mf g l 2 mX2_planeAt (fun r : Int32 => (some (Value.int r), h)) [.ref (mad g t), .int p0] h (x_X2_planeAt t p0 h) := by
  refine mf_of (by decide) (Nat.le_of_ble_eq_true rfl) ?_
  show mw g l 2 mX2_planeAt (fun r : Int32 => (some (Value.int r), h)) 0 [(0, .ref (mad g t)), (1, .int p0)] [] h _
  unfold x_X2_planeAt
  refine mw_aload_n (n := 1) (q := 0) dX2_planeAt_0 rfl rfl rfl ?_
  refine mw_getr (n := 4) (a := t) (k := 0) cl2 ht (by decide) rfl rfl fl_X2_12 dX2_planeAt_1 rfl ?_
  refine mw_geti (n := 7) (a := (t + 1)) (k := 6) cl6 (mk2_1 hg ht) (by decide) rfl rfl fl_X2_29 dX2_planeAt_4 rfl ?_
  refine mw_iconst (n := 8) (v := -1) dX2_planeAt_7 rfl (by decide) ?_
  refine mw_icmp_ne (n := 11) (t := 16) dX2_planeAt_8 rfl (by decide) Iff.rfl (fun c1 => ?_) (fun c1 => ?_)
  · refine mw_aload_n (n := 17) (q := 0) dX2_planeAt_16 rfl rfl rfl ?_
    refine mw_getr (n := 20) (a := t) (k := 0) cl2 ht (by decide) rfl rfl fl_X2_12 dX2_planeAt_17 rfl ?_
    refine mw_geti (n := 23) (a := (t + 1)) (k := 6) cl6 (mk2_1 hg ht) (by decide) rfl rfl fl_X2_29 dX2_planeAt_20 rfl ?_
    refine mw_iload_n (n := 24) (q := 1) dX2_planeAt_23 rfl rfl rfl ?_
    refine mw_callN (n := 27) (As := [.int (mgi h (t + 1) 6), .int p0]) (t_X8_yesIn hg (mgi h (t + 1) 6) p0 h) (by decide) ok_X8_yesIn rfl ln_X2_44 sm_X8_yesIn dX2_planeAt_24 rfl rfl (Nat.le_of_ble_eq_true rfl) (fun q2 _ => ?_)
    show mw g l _ _ _ 27 _ [.int q2] h _
    exact mw_iret dX2_planeAt_27 rfl rfl
  · refine mw_bipush (n := 13) (v := -9) dX2_planeAt_11 rfl (by decide) ?_
    refine mw_goto (n := 27) dX2_planeAt_13 (by decide) ?_
    exact mw_iret dX2_planeAt_27 rfl rfl
noncomputable def x_X2_switchRefusal_85 (s0 : Int32) (h : mH) : Option (Int32) :=
  some (if s0 = 0 then (-3 : Int32) else (0 : Int32))
set_option maxRecDepth 20000 in
set_option maxHeartbeats 4000000 in
theorem b_X2_switchRefusal_85 {g : mG} {l : Launch} (hg : mOK g) (s0 : Int32) (h : mH) : mw g l 3 mX2_switchRefusal (fun r : Int32 => (some (Value.int r), h)) 85 [] [.int s0] h (x_X2_switchRefusal_85 s0 h) := by
  unfold x_X2_switchRefusal_85
  refine mw_istore (n := 87) dX2_switchRefusal_85 rfl (by decide) rfl ?_
  refine mw_iload (n := 89) (q := 0) dX2_switchRefusal_87 rfl rfl ?_
  refine mw_cutJ (pc' := 98) (lv' := [(5, .int s0)]) (st' := [.int (if s0 = 0 then (-3 : Int32) else (0 : Int32))]) (fun J => ?_) ?_
  · refine mw_if_eq_m (n := 92) (t := 96) dX2_switchRefusal_89 rfl (by decide) (fun c1 => ?_) (fun c1 => ?_)
    · refine mw_bipush (n := 98) (v := -3) dX2_switchRefusal_96 rfl (by decide) ?_
      exact mw_topeq (if_pos c1).symm J
    · refine mw_iconst (n := 93) (v := 0) dX2_switchRefusal_92 rfl (by decide) ?_
      refine mw_goto (n := 98) dX2_switchRefusal_93 (by decide) ?_
      exact mw_topeq (if_neg c1).symm J
  exact mw_iret dX2_switchRefusal_98 rfl rfl
noncomputable def x_X2_switchRefusal_84 (h : mH) : Option (Int32) :=
  x_X2_switchRefusal_85 (0 : Int32) h
set_option maxRecDepth 20000 in
set_option maxHeartbeats 4000000 in
theorem b_X2_switchRefusal_84 {g : mG} {l : Launch} (hg : mOK g) (h : mH) : mw g l 3 mX2_switchRefusal (fun r : Int32 => (some (Value.int r), h)) 84 [] [] h (x_X2_switchRefusal_84 h) := by
  unfold x_X2_switchRefusal_84
  refine mw_iconst (n := 85) (v := 0) dX2_switchRefusal_84 rfl (by decide) ?_
  exact b_X2_switchRefusal_85 hg (0 : Int32) h
noncomputable def x_X2_switchRefusal (t : Nat) (p0 : Int32) (p1 : Int32) (p2 : Int32) (p3 : Int32) (h : mH) : Option (Int32) :=
  (x_X6_hasRow (t + 1) p0 h).bind fun q1 =>
  if q1 = 0 then
    some (-1 : Int32)
  else
    (x_X6_hasRow (t + 1) p1 h).bind fun q3 =>
    if q3 = 0 then
      some (-1 : Int32)
    else
      (x_X6_hasColumn (t + 1) p2 h).bind fun q5 =>
      if q5 = 0 then
        some (-1 : Int32)
      else
        (x_X6_hasColumn (t + 1) p3 h).bind fun q7 =>
        if ¬ q7 = 0 then
          if (mgi h (t + 1) 6) = (-1 : Int32) then
            x_X2_switchRefusal_84 h
          else
            (x_X6_isSwitch (t + 1) (mgi h (t + 1) 6) p0 p1 p2 p3 h).bind fun q10 =>
            mlet (if q10 = 0 then (0 : Int32) else (1 : Int32)) fun u12 =>
            some (if u12 = 0 then (-3 : Int32) else (0 : Int32))
        else
          some (-1 : Int32)
set_option maxRecDepth 20000 in
set_option maxHeartbeats 4000000 in
theorem t_X2_switchRefusal {g : mG} {l : Launch} (hg : mOK g) (t : Nat) (p0 : Int32) (p1 : Int32) (p2 : Int32) (p3 : Int32) (ht : mkn g t 2) (h : mH) : mf g l 3 mX2_switchRefusal (fun r : Int32 => (some (Value.int r), h)) [.ref (mad g t), .int p0, .int p1, .int p2, .int p3] h (x_X2_switchRefusal t p0 p1 p2 p3 h) := by
  refine mf_of (by decide) (Nat.le_of_ble_eq_true rfl) ?_
  show mw g l 3 mX2_switchRefusal (fun r : Int32 => (some (Value.int r), h)) 0 [(0, .ref (mad g t)), (1, .int p0), (2, .int p1), (3, .int p2), (4, .int p3)] [] h _
  unfold x_X2_switchRefusal
  refine mw_aload_n (n := 1) (q := 0) dX2_switchRefusal_0 rfl rfl rfl ?_
  refine mw_getr (n := 4) (a := t) (k := 0) cl2 ht (by decide) rfl rfl fl_X2_12 dX2_switchRefusal_1 rfl ?_
  refine mw_iload_n (n := 5) (q := 1) dX2_switchRefusal_4 rfl rfl rfl ?_
  refine mw_callV (n := 8) (a := (t + 1)) (As := [.int p0]) cl6 (mk2_1 hg ht) (t_X6_hasRow hg (t + 1) p0 (mk2_1 hg ht) h) (by decide) ok_X6_hasRow rfl rfl lk_X2_48 im_X6_hasRow se_X6_hasRow dX2_switchRefusal_5 rfl rfl (Nat.le_of_ble_eq_true rfl) (fun q1 _ => ?_)
  show mw g l _ _ _ 8 _ [.int q1] h _
  refine mw_if_eq (n := 11) (t := 45) dX2_switchRefusal_8 rfl (by decide) Iff.rfl (fun c2 => ?_) (fun c2 => ?_)
  · refine mw_iconst (n := 46) (v := -1) dX2_switchRefusal_45 rfl (by decide) ?_
    exact mw_iret dX2_switchRefusal_46 rfl rfl
  · refine mw_aload_n (n := 12) (q := 0) dX2_switchRefusal_11 rfl rfl rfl ?_
    refine mw_getr (n := 15) (a := t) (k := 0) cl2 ht (by decide) rfl rfl fl_X2_12 dX2_switchRefusal_12 rfl ?_
    refine mw_iload_n (n := 16) (q := 2) dX2_switchRefusal_15 rfl rfl rfl ?_
    refine mw_callV (n := 19) (a := (t + 1)) (As := [.int p1]) cl6 (mk2_1 hg ht) (t_X6_hasRow hg (t + 1) p1 (mk2_1 hg ht) h) (by decide) ok_X6_hasRow rfl rfl lk_X2_48 im_X6_hasRow se_X6_hasRow dX2_switchRefusal_16 rfl rfl (Nat.le_of_ble_eq_true rfl) (fun q3 _ => ?_)
    show mw g l _ _ _ 19 _ [.int q3] h _
    refine mw_if_eq (n := 22) (t := 45) dX2_switchRefusal_19 rfl (by decide) Iff.rfl (fun c4 => ?_) (fun c4 => ?_)
    · refine mw_iconst (n := 46) (v := -1) dX2_switchRefusal_45 rfl (by decide) ?_
      exact mw_iret dX2_switchRefusal_46 rfl rfl
    · refine mw_aload_n (n := 23) (q := 0) dX2_switchRefusal_22 rfl rfl rfl ?_
      refine mw_getr (n := 26) (a := t) (k := 0) cl2 ht (by decide) rfl rfl fl_X2_12 dX2_switchRefusal_23 rfl ?_
      refine mw_iload_n (n := 27) (q := 3) dX2_switchRefusal_26 rfl rfl rfl ?_
      refine mw_callV (n := 30) (a := (t + 1)) (As := [.int p2]) cl6 (mk2_1 hg ht) (t_X6_hasColumn hg (t + 1) p2 (mk2_1 hg ht) h) (by decide) ok_X6_hasColumn rfl rfl lk_X2_52 im_X6_hasColumn se_X6_hasColumn dX2_switchRefusal_27 rfl rfl (Nat.le_of_ble_eq_true rfl) (fun q5 _ => ?_)
      show mw g l _ _ _ 30 _ [.int q5] h _
      refine mw_if_eq (n := 33) (t := 45) dX2_switchRefusal_30 rfl (by decide) Iff.rfl (fun c6 => ?_) (fun c6 => ?_)
      · refine mw_iconst (n := 46) (v := -1) dX2_switchRefusal_45 rfl (by decide) ?_
        exact mw_iret dX2_switchRefusal_46 rfl rfl
      · refine mw_aload_n (n := 34) (q := 0) dX2_switchRefusal_33 rfl rfl rfl ?_
        refine mw_getr (n := 37) (a := t) (k := 0) cl2 ht (by decide) rfl rfl fl_X2_12 dX2_switchRefusal_34 rfl ?_
        refine mw_iload (n := 39) (q := 4) dX2_switchRefusal_37 rfl rfl ?_
        refine mw_callV (n := 42) (a := (t + 1)) (As := [.int p3]) cl6 (mk2_1 hg ht) (t_X6_hasColumn hg (t + 1) p3 (mk2_1 hg ht) h) (by decide) ok_X6_hasColumn rfl rfl lk_X2_52 im_X6_hasColumn se_X6_hasColumn dX2_switchRefusal_39 rfl rfl (Nat.le_of_ble_eq_true rfl) (fun q7 _ => ?_)
        show mw g l _ _ _ 42 _ [.int q7] h _
        refine mw_if_ne (n := 45) (t := 47) dX2_switchRefusal_42 rfl (by decide) Iff.rfl (fun c8 => ?_) (fun c8 => ?_)
        · refine mw_aload_n (n := 48) (q := 0) dX2_switchRefusal_47 rfl rfl rfl ?_
          refine mw_getr (n := 51) (a := t) (k := 0) cl2 ht (by decide) rfl rfl fl_X2_12 dX2_switchRefusal_48 rfl ?_
          refine mw_geti (n := 54) (a := (t + 1)) (k := 6) cl6 (mk2_1 hg ht) (by decide) rfl rfl fl_X2_29 dX2_switchRefusal_51 rfl ?_
          refine mw_iconst (n := 55) (v := -1) dX2_switchRefusal_54 rfl (by decide) ?_
          refine mw_icmp_eq (n := 58) (t := 84) dX2_switchRefusal_55 rfl (by decide) Iff.rfl (fun c9 => ?_) (fun c9 => ?_)
          · refine mw_sub [] rfl ?_
            exact b_X2_switchRefusal_84 hg h
          · refine mw_aload_n (n := 59) (q := 0) dX2_switchRefusal_58 rfl rfl rfl ?_
            refine mw_getr (n := 62) (a := t) (k := 0) cl2 ht (by decide) rfl rfl fl_X2_12 dX2_switchRefusal_59 rfl ?_
            refine mw_aload_n (n := 63) (q := 0) dX2_switchRefusal_62 rfl rfl rfl ?_
            refine mw_getr (n := 66) (a := t) (k := 0) cl2 ht (by decide) rfl rfl fl_X2_12 dX2_switchRefusal_63 rfl ?_
            refine mw_geti (n := 69) (a := (t + 1)) (k := 6) cl6 (mk2_1 hg ht) (by decide) rfl rfl fl_X2_29 dX2_switchRefusal_66 rfl ?_
            refine mw_iload_n (n := 70) (q := 1) dX2_switchRefusal_69 rfl rfl rfl ?_
            refine mw_iload_n (n := 71) (q := 2) dX2_switchRefusal_70 rfl rfl rfl ?_
            refine mw_iload_n (n := 72) (q := 3) dX2_switchRefusal_71 rfl rfl rfl ?_
            refine mw_iload (n := 74) (q := 4) dX2_switchRefusal_72 rfl rfl ?_
            refine mw_callV (n := 77) (a := (t + 1)) (As := [.int (mgi h (t + 1) 6), .int p0, .int p1, .int p2, .int p3]) cl6 (mk2_1 hg ht) (t_X6_isSwitch hg (t + 1) (mgi h (t + 1) 6) p0 p1 p2 p3 (mk2_1 hg ht) h) (by decide) ok_X6_isSwitch rfl rfl lk_X2_55 im_X6_isSwitch se_X6_isSwitch dX2_switchRefusal_74 rfl rfl (Nat.le_of_ble_eq_true rfl) (fun q10 _ => ?_)
            show mw g l _ _ _ 77 _ [.int q10] h _
            refine mw_cutJ (pc' := 85) (lv' := [(0, .ref (mad g t)), (1, .int p0), (2, .int p1), (3, .int p2), (4, .int p3)]) (st' := [.int (if q10 = 0 then (0 : Int32) else (1 : Int32))]) (fun J => ?_) ?_
            · refine mw_if_eq_m (n := 80) (t := 84) dX2_switchRefusal_77 rfl (by decide) (fun c11 => ?_) (fun c11 => ?_)
              · refine mw_iconst (n := 85) (v := 0) dX2_switchRefusal_84 rfl (by decide) ?_
                exact mw_topeq (if_pos c11).symm J
              · refine mw_iconst (n := 81) (v := 1) dX2_switchRefusal_80 rfl (by decide) ?_
                refine mw_goto (n := 85) dX2_switchRefusal_81 (by decide) ?_
                exact mw_topeq (if_neg c11).symm J
            refine mw_letI (fun u12 => ?_)
            refine mw_istore (n := 87) dX2_switchRefusal_85 rfl (by decide) rfl ?_
            refine mw_iload (n := 89) (q := 0) dX2_switchRefusal_87 rfl rfl ?_
            refine mw_cutJ (pc' := 98) (lv' := [(5, .int u12), (0, .ref (mad g t)), (1, .int p0), (2, .int p1), (3, .int p2), (4, .int p3)]) (st' := [.int (if u12 = 0 then (-3 : Int32) else (0 : Int32))]) (fun J => ?_) ?_
            · refine mw_if_eq_m (n := 92) (t := 96) dX2_switchRefusal_89 rfl (by decide) (fun c13 => ?_) (fun c13 => ?_)
              · refine mw_bipush (n := 98) (v := -3) dX2_switchRefusal_96 rfl (by decide) ?_
                exact mw_topeq (if_pos c13).symm J
              · refine mw_iconst (n := 93) (v := 0) dX2_switchRefusal_92 rfl (by decide) ?_
                refine mw_goto (n := 98) dX2_switchRefusal_93 (by decide) ?_
                exact mw_topeq (if_neg c13).symm J
            exact mw_iret dX2_switchRefusal_98 rfl rfl
        · refine mw_iconst (n := 46) (v := -1) dX2_switchRefusal_45 rfl (by decide) ?_
          exact mw_iret dX2_switchRefusal_46 rfl rfl
noncomputable def x_X2_makeSwitch (t : Nat) (p0 : Int32) (p1 : Int32) (p2 : Int32) (p3 : Int32) (h : mH) : Option (mH) :=
  (x_X6_switched (t + 1) (mgi h (t + 1) 6) p0 p1 p2 p3 h).bind fun q1 =>
  mlet (msi h (t + 1) 6 q1) fun h2 =>
  some h2
set_option maxRecDepth 20000 in
set_option maxHeartbeats 4000000 in
theorem t_X2_makeSwitch {g : mG} {l : Launch} (hg : mOK g) (t : Nat) (p0 : Int32) (p1 : Int32) (p2 : Int32) (p3 : Int32) (ht : mkn g t 2) (h : mH) : mf g l 3 mX2_makeSwitch (fun r : mH => ((none : Option Value), r)) [.ref (mad g t), .int p0, .int p1, .int p2, .int p3] h (x_X2_makeSwitch t p0 p1 p2 p3 h) := by
  refine mf_of (by decide) (Nat.le_of_ble_eq_true rfl) ?_
  show mw g l 3 mX2_makeSwitch (fun r : mH => ((none : Option Value), r)) 0 [(0, .ref (mad g t)), (1, .int p0), (2, .int p1), (3, .int p2), (4, .int p3)] [] h _
  unfold x_X2_makeSwitch
  refine mw_aload_n (n := 1) (q := 0) dX2_makeSwitch_0 rfl rfl rfl ?_
  refine mw_getr (n := 4) (a := t) (k := 0) cl2 ht (by decide) rfl rfl fl_X2_12 dX2_makeSwitch_1 rfl ?_
  refine mw_aload_n (n := 5) (q := 0) dX2_makeSwitch_4 rfl rfl rfl ?_
  refine mw_getr (n := 8) (a := t) (k := 0) cl2 ht (by decide) rfl rfl fl_X2_12 dX2_makeSwitch_5 rfl ?_
  refine mw_aload_n (n := 9) (q := 0) dX2_makeSwitch_8 rfl rfl rfl ?_
  refine mw_getr (n := 12) (a := t) (k := 0) cl2 ht (by decide) rfl rfl fl_X2_12 dX2_makeSwitch_9 rfl ?_
  refine mw_geti (n := 15) (a := (t + 1)) (k := 6) cl6 (mk2_1 hg ht) (by decide) rfl rfl fl_X2_29 dX2_makeSwitch_12 rfl ?_
  refine mw_iload_n (n := 16) (q := 1) dX2_makeSwitch_15 rfl rfl rfl ?_
  refine mw_iload_n (n := 17) (q := 2) dX2_makeSwitch_16 rfl rfl rfl ?_
  refine mw_iload_n (n := 18) (q := 3) dX2_makeSwitch_17 rfl rfl rfl ?_
  refine mw_iload (n := 20) (q := 4) dX2_makeSwitch_18 rfl rfl ?_
  refine mw_callV (n := 23) (a := (t + 1)) (As := [.int (mgi h (t + 1) 6), .int p0, .int p1, .int p2, .int p3]) cl6 (mk2_1 hg ht) (t_X6_switched hg (t + 1) (mgi h (t + 1) 6) p0 p1 p2 p3 (mk2_1 hg ht) h) (by decide) ok_X6_switched rfl rfl lk_X2_59 im_X6_switched se_X6_switched dX2_makeSwitch_20 rfl rfl (Nat.le_of_ble_eq_true rfl) (fun q1 _ => ?_)
  show mw g l _ _ _ 23 _ [.int q1, .ref (mad g (t + 1))] h _
  refine mw_puti (n := 26) (a := (t + 1)) (k := 6) cl6 ct6 (mk2_1 hg ht) (by decide) rfl rfl rfl rfl fl_X2_29 dX2_makeSwitch_23 rfl (mw_leth (fun h2 => ?_))
  exact mw_vret dX2_makeSwitch_26 rfl rfl
noncomputable def x_X2_totalRefusal_12 (r0 : Nat) (v1 : Int32) (v2 : Int32) (v3 : Int32) (h : mH) : Option (Int32) :=
  (x_X6_hasTotal (r0 + 1) v1 v2 h).bind fun q1 =>
  if ¬ q1 = 0 then
    if v3 < 0 then
      some (-2 : Int32)
    else
      (x_X6_mostTotal (r0 + 1) v1 h).bind fun q4 =>
      some (if v3 ≤ q4 then (0 : Int32) else (-2 : Int32))
  else
    some (-1 : Int32)
set_option maxRecDepth 20000 in
set_option maxHeartbeats 4000000 in
theorem b_X2_totalRefusal_12 {g : mG} {l : Launch} (hg : mOK g) (r0 : Nat) (v1 : Int32) (v2 : Int32) (v3 : Int32) (h : mH) (hr0 : mkn g r0 2) : mw g l 2 mX2_totalRefusal (fun r : Int32 => (some (Value.int r), h)) 12 [(0, .ref (mad g r0)), (1, .int v1), (2, .int v2), (3, .int v3)] [] h (x_X2_totalRefusal_12 r0 v1 v2 v3 h) := by
  unfold x_X2_totalRefusal_12
  refine mw_aload_n (n := 13) (q := 0) dX2_totalRefusal_12 rfl rfl rfl ?_
  refine mw_getr (n := 16) (a := r0) (k := 0) cl2 hr0 (by decide) rfl rfl fl_X2_12 dX2_totalRefusal_13 rfl ?_
  refine mw_iload_n (n := 17) (q := 1) dX2_totalRefusal_16 rfl rfl rfl ?_
  refine mw_iload_n (n := 18) (q := 2) dX2_totalRefusal_17 rfl rfl rfl ?_
  refine mw_callV (n := 21) (a := (r0 + 1)) (As := [.int v1, .int v2]) cl6 (mk2_1 hg hr0) (t_X6_hasTotal hg (r0 + 1) v1 v2 (mk2_1 hg hr0) h) (by decide) ok_X6_hasTotal rfl rfl lk_X2_63 im_X6_hasTotal se_X6_hasTotal dX2_totalRefusal_18 rfl rfl (Nat.le_of_ble_eq_true rfl) (fun q1 _ => ?_)
  show mw g l _ _ _ 21 _ [.int q1] h _
  refine mw_if_ne (n := 24) (t := 26) dX2_totalRefusal_21 rfl (by decide) Iff.rfl (fun c2 => ?_) (fun c2 => ?_)
  · refine mw_iload_n (n := 27) (q := 3) dX2_totalRefusal_26 rfl rfl rfl ?_
    refine mw_if_lt (n := 30) (t := 42) dX2_totalRefusal_27 rfl (by decide) Iff.rfl (fun c3 => ?_) (fun c3 => ?_)
    · refine mw_bipush (n := 44) (v := -2) dX2_totalRefusal_42 rfl (by decide) ?_
      refine mw_goto (n := 48) dX2_totalRefusal_44 (by decide) ?_
      exact mw_iret dX2_totalRefusal_48 rfl rfl
    · refine mw_iload_n (n := 31) (q := 3) dX2_totalRefusal_30 rfl rfl rfl ?_
      refine mw_aload_n (n := 32) (q := 0) dX2_totalRefusal_31 rfl rfl rfl ?_
      refine mw_getr (n := 35) (a := r0) (k := 0) cl2 hr0 (by decide) rfl rfl fl_X2_12 dX2_totalRefusal_32 rfl ?_
      refine mw_iload_n (n := 36) (q := 1) dX2_totalRefusal_35 rfl rfl rfl ?_
      refine mw_callV (n := 39) (a := (r0 + 1)) (As := [.int v1]) cl6 (mk2_1 hg hr0) (t_X6_mostTotal hg (r0 + 1) v1 (mk2_1 hg hr0) h) (by decide) ok_X6_mostTotal rfl rfl lk_X2_67 im_X6_mostTotal se_X6_mostTotal dX2_totalRefusal_36 rfl rfl (Nat.le_of_ble_eq_true rfl) (fun q4 _ => ?_)
      show mw g l _ _ _ 39 _ [.int q4, .int v3] h _
      refine mw_cutJ (pc' := 48) (lv' := [(0, .ref (mad g r0)), (1, .int v1), (2, .int v2), (3, .int v3)]) (st' := [.int (if v3 ≤ q4 then (0 : Int32) else (-2 : Int32))]) (fun J => ?_) ?_
      · refine mw_icmp_le_m (n := 42) (t := 47) dX2_totalRefusal_39 rfl (by decide) (fun c5 => ?_) (fun c5 => ?_)
        · refine mw_iconst (n := 48) (v := 0) dX2_totalRefusal_47 rfl (by decide) ?_
          exact mw_topeq (if_pos c5).symm J
        · refine mw_bipush (n := 44) (v := -2) dX2_totalRefusal_42 rfl (by decide) ?_
          refine mw_goto (n := 48) dX2_totalRefusal_44 (by decide) ?_
          exact mw_topeq (if_neg c5).symm J
      exact mw_iret dX2_totalRefusal_48 rfl rfl
  · refine mw_iconst (n := 25) (v := -1) dX2_totalRefusal_24 rfl (by decide) ?_
    exact mw_iret dX2_totalRefusal_25 rfl rfl
noncomputable def x_X2_totalRefusal (t : Nat) (p0 : Int32) (p1 : Int32) (p2 : Int32) (h : mH) : Option (Int32) :=
  if p0 = 0 then
    x_X2_totalRefusal_12 t p0 p1 p2 h
  else
    if p0 = (1 : Int32) then
      x_X2_totalRefusal_12 t p0 p1 p2 h
    else
      some (-2 : Int32)
set_option maxRecDepth 20000 in
set_option maxHeartbeats 4000000 in
theorem t_X2_totalRefusal {g : mG} {l : Launch} (hg : mOK g) (t : Nat) (p0 : Int32) (p1 : Int32) (p2 : Int32) (ht : mkn g t 2) (h : mH) : mf g l 2 mX2_totalRefusal (fun r : Int32 => (some (Value.int r), h)) [.ref (mad g t), .int p0, .int p1, .int p2] h (x_X2_totalRefusal t p0 p1 p2 h) := by
  refine mf_of (by decide) (Nat.le_of_ble_eq_true rfl) ?_
  show mw g l 2 mX2_totalRefusal (fun r : Int32 => (some (Value.int r), h)) 0 [(0, .ref (mad g t)), (1, .int p0), (2, .int p1), (3, .int p2)] [] h _
  unfold x_X2_totalRefusal
  refine mw_iload_n (n := 1) (q := 1) dX2_totalRefusal_0 rfl rfl rfl ?_
  refine mw_if_eq (n := 4) (t := 12) dX2_totalRefusal_1 rfl (by decide) Iff.rfl (fun c1 => ?_) (fun c1 => ?_)
  · exact b_X2_totalRefusal_12 hg t p0 p1 p2 h ht
  · refine mw_iload_n (n := 5) (q := 1) dX2_totalRefusal_4 rfl rfl rfl ?_
    refine mw_iconst (n := 6) (v := 1) dX2_totalRefusal_5 rfl (by decide) ?_
    refine mw_icmp_eq (n := 9) (t := 12) dX2_totalRefusal_6 rfl (by decide) Iff.rfl (fun c2 => ?_) (fun c2 => ?_)
    · exact b_X2_totalRefusal_12 hg t p0 p1 p2 h ht
    · refine mw_bipush (n := 11) (v := -2) dX2_totalRefusal_9 rfl (by decide) ?_
      exact mw_iret dX2_totalRefusal_11 rfl rfl
noncomputable def x_X2_pinRefusal_45 (r0 : Nat) (s0 : Int32) (h : mH) : Option (Int32) :=
  if s0 = 0 then
    some (0 : Int32)
  else
    (x_X6_pinCount (r0 + 1) h).bind fun q2 =>
    some (if q2 < (6 : Int32) then (0 : Int32) else (-4 : Int32))
set_option maxRecDepth 20000 in
set_option maxHeartbeats 4000000 in
theorem b_X2_pinRefusal_45 {g : mG} {l : Launch} (hg : mOK g) (r0 : Nat) (s0 : Int32) (h : mH) (hr0 : mkn g r0 2) : mw g l 2 mX2_pinRefusal (fun r : Int32 => (some (Value.int r), h)) 45 [(0, .ref (mad g r0))] [.int s0] h (x_X2_pinRefusal_45 r0 s0 h) := by
  unfold x_X2_pinRefusal_45
  refine mw_istore_n (n := 46) dX2_pinRefusal_45 rfl rfl (by decide) rfl ?_
  refine mw_iload_n (n := 47) (q := 0) dX2_pinRefusal_46 rfl rfl rfl ?_
  refine mw_if_eq (n := 50) (t := 67) dX2_pinRefusal_47 rfl (by decide) Iff.rfl (fun c1 => ?_) (fun c1 => ?_)
  · refine mw_iconst (n := 68) (v := 0) dX2_pinRefusal_67 rfl (by decide) ?_
    exact mw_iret dX2_pinRefusal_68 rfl rfl
  · refine mw_aload_n (n := 51) (q := 1) dX2_pinRefusal_50 rfl rfl rfl ?_
    refine mw_getr (n := 54) (a := r0) (k := 0) cl2 hr0 (by decide) rfl rfl fl_X2_12 dX2_pinRefusal_51 rfl ?_
    refine mw_callV (n := 57) (a := (r0 + 1)) (As := []) cl6 (mk2_1 hg hr0) (t_X6_pinCount hg (r0 + 1) (mk2_1 hg hr0) h) (by decide) ok_X6_pinCount rfl rfl lk_X2_76 im_X6_pinCount se_X6_pinCount dX2_pinRefusal_54 rfl rfl (Nat.le_of_ble_eq_true rfl) (fun q2 _ => ?_)
    show mw g l _ _ _ 57 _ [.int q2] h _
    refine mw_bipush (n := 59) (v := 6) dX2_pinRefusal_57 rfl (by decide) ?_
    refine mw_cutJ (pc' := 68) (lv' := [(3, .int s0), (0, .ref (mad g r0))]) (st' := [.int (if q2 < (6 : Int32) then (0 : Int32) else (-4 : Int32))]) (fun J => ?_) ?_
    · refine mw_icmp_lt_m (n := 62) (t := 67) dX2_pinRefusal_59 rfl (by decide) (fun c3 => ?_) (fun c3 => ?_)
      · refine mw_iconst (n := 68) (v := 0) dX2_pinRefusal_67 rfl (by decide) ?_
        exact mw_topeq (if_pos c3).symm J
      · refine mw_bipush (n := 64) (v := -4) dX2_pinRefusal_62 rfl (by decide) ?_
        refine mw_goto (n := 68) dX2_pinRefusal_64 (by decide) ?_
        exact mw_topeq (if_neg c3).symm J
    exact mw_iret dX2_pinRefusal_68 rfl rfl
noncomputable def x_X2_pinRefusal_44 (r0 : Nat) (h : mH) : Option (Int32) :=
  x_X2_pinRefusal_45 r0 (0 : Int32) h
set_option maxRecDepth 20000 in
set_option maxHeartbeats 4000000 in
theorem b_X2_pinRefusal_44 {g : mG} {l : Launch} (hg : mOK g) (r0 : Nat) (h : mH) (hr0 : mkn g r0 2) : mw g l 2 mX2_pinRefusal (fun r : Int32 => (some (Value.int r), h)) 44 [(0, .ref (mad g r0))] [] h (x_X2_pinRefusal_44 r0 h) := by
  unfold x_X2_pinRefusal_44
  refine mw_iconst (n := 45) (v := 0) dX2_pinRefusal_44 rfl (by decide) ?_
  exact b_X2_pinRefusal_45 hg r0 (0 : Int32) h hr0
noncomputable def x_X2_pinRefusal (t : Nat) (p0 : Int32) (p1 : Int32) (h : mH) : Option (Int32) :=
  (x_X6_hasCell (t + 1) p0 h).bind fun q1 =>
  if ¬ q1 = 0 then
    if p1 < 0 then
      some (-2 : Int32)
    else
      if p1 ≤ (2 : Int32) then
        if p1 = 0 then
          x_X2_pinRefusal_44 t h
        else
          (x_X6_pinOf (t + 1) p0 h).bind fun q6 =>
          mlet (if ¬ q6 = 0 then (0 : Int32) else (1 : Int32)) fun u8 =>
          if u8 = 0 then
            some (0 : Int32)
          else
            (x_X6_pinCount (t + 1) h).bind fun q10 =>
            some (if q10 < (6 : Int32) then (0 : Int32) else (-4 : Int32))
      else
        some (-2 : Int32)
  else
    some (-1 : Int32)
set_option maxRecDepth 20000 in
set_option maxHeartbeats 4000000 in
theorem t_X2_pinRefusal {g : mG} {l : Launch} (hg : mOK g) (t : Nat) (p0 : Int32) (p1 : Int32) (ht : mkn g t 2) (h : mH) : mf g l 2 mX2_pinRefusal (fun r : Int32 => (some (Value.int r), h)) [.ref (mad g t), .int p0, .int p1] h (x_X2_pinRefusal t p0 p1 h) := by
  refine mf_of (by decide) (Nat.le_of_ble_eq_true rfl) ?_
  show mw g l 2 mX2_pinRefusal (fun r : Int32 => (some (Value.int r), h)) 0 [(0, .ref (mad g t)), (1, .int p0), (2, .int p1)] [] h _
  unfold x_X2_pinRefusal
  refine mw_aload_n (n := 1) (q := 0) dX2_pinRefusal_0 rfl rfl rfl ?_
  refine mw_getr (n := 4) (a := t) (k := 0) cl2 ht (by decide) rfl rfl fl_X2_12 dX2_pinRefusal_1 rfl ?_
  refine mw_iload_n (n := 5) (q := 1) dX2_pinRefusal_4 rfl rfl rfl ?_
  refine mw_callV (n := 8) (a := (t + 1)) (As := [.int p0]) cl6 (mk2_1 hg ht) (t_X6_hasCell hg (t + 1) p0 (mk2_1 hg ht) h) (by decide) ok_X6_hasCell rfl rfl lk_X2_70 im_X6_hasCell se_X6_hasCell dX2_pinRefusal_5 rfl rfl (Nat.le_of_ble_eq_true rfl) (fun q1 _ => ?_)
  show mw g l _ _ _ 8 _ [.int q1] h _
  refine mw_if_ne (n := 11) (t := 13) dX2_pinRefusal_8 rfl (by decide) Iff.rfl (fun c2 => ?_) (fun c2 => ?_)
  · refine mw_iload_n (n := 14) (q := 2) dX2_pinRefusal_13 rfl rfl rfl ?_
    refine mw_if_lt (n := 17) (t := 22) dX2_pinRefusal_14 rfl (by decide) Iff.rfl (fun c3 => ?_) (fun c3 => ?_)
    · refine mw_bipush (n := 24) (v := -2) dX2_pinRefusal_22 rfl (by decide) ?_
      exact mw_iret dX2_pinRefusal_24 rfl rfl
    · refine mw_iload_n (n := 18) (q := 2) dX2_pinRefusal_17 rfl rfl rfl ?_
      refine mw_iconst (n := 19) (v := 2) dX2_pinRefusal_18 rfl (by decide) ?_
      refine mw_icmp_le (n := 22) (t := 25) dX2_pinRefusal_19 rfl (by decide) Iff.rfl (fun c4 => ?_) (fun c4 => ?_)
      · refine mw_iload_n (n := 26) (q := 2) dX2_pinRefusal_25 rfl rfl rfl ?_
        refine mw_if_eq (n := 29) (t := 44) dX2_pinRefusal_26 rfl (by decide) Iff.rfl (fun c5 => ?_) (fun c5 => ?_)
        · refine mw_sub [0] rfl ?_
          exact b_X2_pinRefusal_44 hg t h ht
        · refine mw_aload_n (n := 30) (q := 0) dX2_pinRefusal_29 rfl rfl rfl ?_
          refine mw_getr (n := 33) (a := t) (k := 0) cl2 ht (by decide) rfl rfl fl_X2_12 dX2_pinRefusal_30 rfl ?_
          refine mw_iload_n (n := 34) (q := 1) dX2_pinRefusal_33 rfl rfl rfl ?_
          refine mw_callV (n := 37) (a := (t + 1)) (As := [.int p0]) cl6 (mk2_1 hg ht) (t_X6_pinOf hg (t + 1) p0 (mk2_1 hg ht) h) (by decide) ok_X6_pinOf rfl rfl lk_X2_73 im_X6_pinOf se_X6_pinOf dX2_pinRefusal_34 rfl rfl (Nat.le_of_ble_eq_true rfl) (fun q6 _ => ?_)
          show mw g l _ _ _ 37 _ [.int q6] h _
          refine mw_cutJ (pc' := 45) (lv' := [(0, .ref (mad g t)), (1, .int p0), (2, .int p1)]) (st' := [.int (if ¬ q6 = 0 then (0 : Int32) else (1 : Int32))]) (fun J => ?_) ?_
          · refine mw_if_ne_m (n := 40) (t := 44) dX2_pinRefusal_37 rfl (by decide) (fun c7 => ?_) (fun c7 => ?_)
            · refine mw_iconst (n := 45) (v := 0) dX2_pinRefusal_44 rfl (by decide) ?_
              exact mw_topeq (if_pos c7).symm J
            · refine mw_iconst (n := 41) (v := 1) dX2_pinRefusal_40 rfl (by decide) ?_
              refine mw_goto (n := 45) dX2_pinRefusal_41 (by decide) ?_
              exact mw_topeq (if_neg c7).symm J
          refine mw_letI (fun u8 => ?_)
          refine mw_istore_n (n := 46) dX2_pinRefusal_45 rfl rfl (by decide) rfl ?_
          refine mw_iload_n (n := 47) (q := 0) dX2_pinRefusal_46 rfl rfl rfl ?_
          refine mw_if_eq (n := 50) (t := 67) dX2_pinRefusal_47 rfl (by decide) Iff.rfl (fun c9 => ?_) (fun c9 => ?_)
          · refine mw_iconst (n := 68) (v := 0) dX2_pinRefusal_67 rfl (by decide) ?_
            exact mw_iret dX2_pinRefusal_68 rfl rfl
          · refine mw_aload_n (n := 51) (q := 1) dX2_pinRefusal_50 rfl rfl rfl ?_
            refine mw_getr (n := 54) (a := t) (k := 0) cl2 ht (by decide) rfl rfl fl_X2_12 dX2_pinRefusal_51 rfl ?_
            refine mw_callV (n := 57) (a := (t + 1)) (As := []) cl6 (mk2_1 hg ht) (t_X6_pinCount hg (t + 1) (mk2_1 hg ht) h) (by decide) ok_X6_pinCount rfl rfl lk_X2_76 im_X6_pinCount se_X6_pinCount dX2_pinRefusal_54 rfl rfl (Nat.le_of_ble_eq_true rfl) (fun q10 _ => ?_)
            show mw g l _ _ _ 57 _ [.int q10] h _
            refine mw_bipush (n := 59) (v := 6) dX2_pinRefusal_57 rfl (by decide) ?_
            refine mw_cutJ (pc' := 68) (lv' := [(3, .int u8), (0, .ref (mad g t)), (1, .int p0), (2, .int p1)]) (st' := [.int (if q10 < (6 : Int32) then (0 : Int32) else (-4 : Int32))]) (fun J => ?_) ?_
            · refine mw_icmp_lt_m (n := 62) (t := 67) dX2_pinRefusal_59 rfl (by decide) (fun c11 => ?_) (fun c11 => ?_)
              · refine mw_iconst (n := 68) (v := 0) dX2_pinRefusal_67 rfl (by decide) ?_
                exact mw_topeq (if_pos c11).symm J
              · refine mw_bipush (n := 64) (v := -4) dX2_pinRefusal_62 rfl (by decide) ?_
                refine mw_goto (n := 68) dX2_pinRefusal_64 (by decide) ?_
                exact mw_topeq (if_neg c11).symm J
            exact mw_iret dX2_pinRefusal_68 rfl rfl
      · refine mw_bipush (n := 24) (v := -2) dX2_pinRefusal_22 rfl (by decide) ?_
        exact mw_iret dX2_pinRefusal_24 rfl rfl
  · refine mw_iconst (n := 12) (v := -1) dX2_pinRefusal_11 rfl (by decide) ?_
    exact mw_iret dX2_pinRefusal_12 rfl rfl
noncomputable def x_X2_takesSwitch (t : Nat) (p0 : Int32) (p1 : Int32) (p2 : Int32) (p3 : Int32) (h : mH) : Option (Int32 × mH) :=
  (x_X2_switchRefusal t p0 p1 p2 p3 h).bind fun q1 =>
  mlet (if ¬ q1 = 0 then (0 : Int32) else (1 : Int32)) fun u3 =>
  if u3 = 0 then
    mzc u3 (some (u3, h))
  else
    (x_X2_makeSwitch t p0 p1 p2 p3 h).bind fun q5 =>
    mzc u3 (some (u3, q5))
set_option maxRecDepth 20000 in
set_option maxHeartbeats 4000000 in
theorem t_X2_takesSwitch {g : mG} {l : Launch} (hg : mOK g) (t : Nat) (p0 : Int32) (p1 : Int32) (p2 : Int32) (p3 : Int32) (ht : mkn g t 2) (h : mH) : mf g l 4 mX2_takesSwitch (fun r : Int32 × mH => (some (Value.int r.1), r.2)) [.ref (mad g t), .int p0, .int p1, .int p2, .int p3] h (x_X2_takesSwitch t p0 p1 p2 p3 h) := by
  refine mf_of (by decide) (Nat.le_of_ble_eq_true rfl) ?_
  show mw g l 4 mX2_takesSwitch (fun r : Int32 × mH => (some (Value.int r.1), r.2)) 0 [(0, .ref (mad g t)), (1, .int p0), (2, .int p1), (3, .int p2), (4, .int p3)] [] h _
  unfold x_X2_takesSwitch
  refine mw_aload_n (n := 1) (q := 0) dX2_takesSwitch_0 rfl rfl rfl ?_
  refine mw_iload_n (n := 2) (q := 1) dX2_takesSwitch_1 rfl rfl rfl ?_
  refine mw_iload_n (n := 3) (q := 2) dX2_takesSwitch_2 rfl rfl rfl ?_
  refine mw_iload_n (n := 4) (q := 3) dX2_takesSwitch_3 rfl rfl rfl ?_
  refine mw_iload (n := 6) (q := 4) dX2_takesSwitch_4 rfl rfl ?_
  refine mw_callV (n := 9) (a := t) (As := [.int p0, .int p1, .int p2, .int p3]) cl2 ht (t_X2_switchRefusal hg t p0 p1 p2 p3 ht h) (by decide) ok_X2_switchRefusal rfl rfl lk_X2_97 im_X2_switchRefusal se_X2_switchRefusal dX2_takesSwitch_6 rfl rfl (Nat.le_of_ble_eq_true rfl) (fun q1 _ => ?_)
  show mw g l _ _ _ 9 _ [.int q1] h _
  refine mw_cutJ (pc' := 17) (lv' := [(0, .ref (mad g t)), (1, .int p0), (2, .int p1), (3, .int p2), (4, .int p3)]) (st' := [.int (if ¬ q1 = 0 then (0 : Int32) else (1 : Int32))]) (fun J => ?_) ?_
  · refine mw_if_ne_m (n := 12) (t := 16) dX2_takesSwitch_9 rfl (by decide) (fun c2 => ?_) (fun c2 => ?_)
    · refine mw_iconst (n := 17) (v := 0) dX2_takesSwitch_16 rfl (by decide) ?_
      exact mw_topeq (if_pos c2).symm J
    · refine mw_iconst (n := 13) (v := 1) dX2_takesSwitch_12 rfl (by decide) ?_
      refine mw_goto (n := 17) dX2_takesSwitch_13 (by decide) ?_
      exact mw_topeq (if_neg c2).symm J
  refine mw_letI (fun u3 => ?_)
  refine mw_istore (n := 19) dX2_takesSwitch_17 rfl (by decide) rfl ?_
  refine mw_iload (n := 21) (q := 0) dX2_takesSwitch_19 rfl rfl ?_
  refine mw_if_eq (n := 24) (t := 33) dX2_takesSwitch_21 rfl (by decide) Iff.rfl (fun c4 => ?_) (fun c4 => ?_)
  · refine mw_iload (n := 35) (q := 0) dX2_takesSwitch_33 rfl rfl ?_
    exact mw_zretC dX2_takesSwitch_35 rfl rfl
  · refine mw_aload_n (n := 25) (q := 1) dX2_takesSwitch_24 rfl rfl rfl ?_
    refine mw_iload_n (n := 26) (q := 2) dX2_takesSwitch_25 rfl rfl rfl ?_
    refine mw_iload_n (n := 27) (q := 3) dX2_takesSwitch_26 rfl rfl rfl ?_
    refine mw_iload_n (n := 28) (q := 4) dX2_takesSwitch_27 rfl rfl rfl ?_
    refine mw_iload (n := 30) (q := 5) dX2_takesSwitch_28 rfl rfl ?_
    refine mw_callV (n := 33) (a := t) (As := [.int p0, .int p1, .int p2, .int p3]) cl2 ht (t_X2_makeSwitch hg t p0 p1 p2 p3 ht h) (by decide) ok_X2_makeSwitch rfl rfl lk_X2_101 im_X2_makeSwitch se_X2_makeSwitch dX2_takesSwitch_30 rfl rfl (Nat.le_of_ble_eq_true rfl) (fun q5 _ => ?_)
    show mw g l _ _ _ 33 _ [] q5 _
    refine mw_iload (n := 35) (q := 0) dX2_takesSwitch_33 rfl rfl ?_
    exact mw_zretC dX2_takesSwitch_35 rfl rfl
noncomputable def x_X2_takesPin (N : Nat) (t : Nat) (p0 : Int32) (p1 : Int32) (h : mH) : Option (Int32 × mH) :=
  (x_X2_pinRefusal t p0 p1 h).bind fun q1 =>
  mlet (if ¬ q1 = 0 then (0 : Int32) else (1 : Int32)) fun u3 =>
  if u3 = 0 then
    mzc u3 (some (u3, h))
  else
    (x_X6_putPin (t + 1) p0 p1 h).bind fun q5 =>
    (x_X2_settle N t q5).bind fun q6 =>
    mzc u3 (some (u3, q6))
set_option maxRecDepth 20000 in
set_option maxHeartbeats 4000000 in
theorem t_X2_takesPin {g : mG} {l : Launch} (hg : mOK g) (N : Nat) (t : Nat) (p0 : Int32) (p1 : Int32) (ht : mkn g t 2) (h : mH) : mf g l 10 mX2_takesPin (fun r : Int32 × mH => (some (Value.int r.1), r.2)) [.ref (mad g t), .int p0, .int p1] h (x_X2_takesPin N t p0 p1 h) := by
  refine mf_of (by decide) (Nat.le_of_ble_eq_true rfl) ?_
  show mw g l 10 mX2_takesPin (fun r : Int32 × mH => (some (Value.int r.1), r.2)) 0 [(0, .ref (mad g t)), (1, .int p0), (2, .int p1)] [] h _
  unfold x_X2_takesPin
  refine mw_aload_n (n := 1) (q := 0) dX2_takesPin_0 rfl rfl rfl ?_
  refine mw_iload_n (n := 2) (q := 1) dX2_takesPin_1 rfl rfl rfl ?_
  refine mw_iload_n (n := 3) (q := 2) dX2_takesPin_2 rfl rfl rfl ?_
  refine mw_callV (n := 6) (a := t) (As := [.int p0, .int p1]) cl2 ht (t_X2_pinRefusal hg t p0 p1 ht h) (by decide) ok_X2_pinRefusal rfl rfl lk_X2_105 im_X2_pinRefusal se_X2_pinRefusal dX2_takesPin_3 rfl rfl (Nat.le_of_ble_eq_true rfl) (fun q1 _ => ?_)
  show mw g l _ _ _ 6 _ [.int q1] h _
  refine mw_cutJ (pc' := 14) (lv' := [(0, .ref (mad g t)), (1, .int p0), (2, .int p1)]) (st' := [.int (if ¬ q1 = 0 then (0 : Int32) else (1 : Int32))]) (fun J => ?_) ?_
  · refine mw_if_ne_m (n := 9) (t := 13) dX2_takesPin_6 rfl (by decide) (fun c2 => ?_) (fun c2 => ?_)
    · refine mw_iconst (n := 14) (v := 0) dX2_takesPin_13 rfl (by decide) ?_
      exact mw_topeq (if_pos c2).symm J
    · refine mw_iconst (n := 10) (v := 1) dX2_takesPin_9 rfl (by decide) ?_
      refine mw_goto (n := 14) dX2_takesPin_10 (by decide) ?_
      exact mw_topeq (if_neg c2).symm J
  refine mw_letI (fun u3 => ?_)
  refine mw_istore_n (n := 15) dX2_takesPin_14 rfl rfl (by decide) rfl ?_
  refine mw_iload_n (n := 16) (q := 0) dX2_takesPin_15 rfl rfl rfl ?_
  refine mw_if_eq (n := 19) (t := 32) dX2_takesPin_16 rfl (by decide) Iff.rfl (fun c4 => ?_) (fun c4 => ?_)
  · refine mw_iload_n (n := 33) (q := 0) dX2_takesPin_32 rfl rfl rfl ?_
    exact mw_zretC dX2_takesPin_33 rfl rfl
  · refine mw_aload_n (n := 20) (q := 1) dX2_takesPin_19 rfl rfl rfl ?_
    refine mw_getr (n := 23) (a := t) (k := 0) cl2 ht (by decide) rfl rfl fl_X2_12 dX2_takesPin_20 rfl ?_
    refine mw_iload_n (n := 24) (q := 2) dX2_takesPin_23 rfl rfl rfl ?_
    refine mw_iload_n (n := 25) (q := 3) dX2_takesPin_24 rfl rfl rfl ?_
    refine mw_callV (n := 28) (a := (t + 1)) (As := [.int p0, .int p1]) cl6 (mk2_1 hg ht) (t_X6_putPin hg (t + 1) p0 p1 (mk2_1 hg ht) h) (by decide) ok_X6_putPin rfl rfl lk_X2_108 im_X6_putPin se_X6_putPin dX2_takesPin_25 rfl rfl (Nat.le_of_ble_eq_true rfl) (fun q5 _ => ?_)
    show mw g l _ _ _ 28 _ [] q5 _
    refine mw_aload_n (n := 29) (q := 1) dX2_takesPin_28 rfl rfl rfl ?_
    refine mw_callV (n := 32) (a := t) (As := []) cl2 ht (t_X2_settle hg N t ht q5) (by decide) ok_X2_settle rfl rfl lk_X2_112 im_X2_settle se_X2_settle dX2_takesPin_29 rfl rfl (Nat.le_of_ble_eq_true rfl) (fun q6 _ => ?_)
    show mw g l _ _ _ 32 _ [] q6 _
    refine mw_iload_n (n := 33) (q := 0) dX2_takesPin_32 rfl rfl rfl ?_
    exact mw_zretC dX2_takesPin_33 rfl rfl
noncomputable def x_X2_takesTotal (N : Nat) (t : Nat) (p0 : Int32) (p1 : Int32) (p2 : Int32) (h : mH) : Option (Int32 × mH) :=
  (x_X2_totalRefusal t p0 p1 p2 h).bind fun q1 =>
  mlet (if ¬ q1 = 0 then (0 : Int32) else (1 : Int32)) fun u3 =>
  if u3 = 0 then
    mzc u3 (some (u3, h))
  else
    (x_X6_putTotal (t + 1) p0 p1 p2 h).bind fun q5 =>
    (x_X2_settle N t q5).bind fun q6 =>
    mzc u3 (some (u3, q6))
set_option maxRecDepth 20000 in
set_option maxHeartbeats 4000000 in
theorem t_X2_takesTotal {g : mG} {l : Launch} (hg : mOK g) (N : Nat) (t : Nat) (p0 : Int32) (p1 : Int32) (p2 : Int32) (ht : mkn g t 2) (h : mH) : mf g l 10 mX2_takesTotal (fun r : Int32 × mH => (some (Value.int r.1), r.2)) [.ref (mad g t), .int p0, .int p1, .int p2] h (x_X2_takesTotal N t p0 p1 p2 h) := by
  refine mf_of (by decide) (Nat.le_of_ble_eq_true rfl) ?_
  show mw g l 10 mX2_takesTotal (fun r : Int32 × mH => (some (Value.int r.1), r.2)) 0 [(0, .ref (mad g t)), (1, .int p0), (2, .int p1), (3, .int p2)] [] h _
  unfold x_X2_takesTotal
  refine mw_aload_n (n := 1) (q := 0) dX2_takesTotal_0 rfl rfl rfl ?_
  refine mw_iload_n (n := 2) (q := 1) dX2_takesTotal_1 rfl rfl rfl ?_
  refine mw_iload_n (n := 3) (q := 2) dX2_takesTotal_2 rfl rfl rfl ?_
  refine mw_iload_n (n := 4) (q := 3) dX2_takesTotal_3 rfl rfl rfl ?_
  refine mw_callV (n := 7) (a := t) (As := [.int p0, .int p1, .int p2]) cl2 ht (t_X2_totalRefusal hg t p0 p1 p2 ht h) (by decide) ok_X2_totalRefusal rfl rfl lk_X2_115 im_X2_totalRefusal se_X2_totalRefusal dX2_takesTotal_4 rfl rfl (Nat.le_of_ble_eq_true rfl) (fun q1 _ => ?_)
  show mw g l _ _ _ 7 _ [.int q1] h _
  refine mw_cutJ (pc' := 15) (lv' := [(0, .ref (mad g t)), (1, .int p0), (2, .int p1), (3, .int p2)]) (st' := [.int (if ¬ q1 = 0 then (0 : Int32) else (1 : Int32))]) (fun J => ?_) ?_
  · refine mw_if_ne_m (n := 10) (t := 14) dX2_takesTotal_7 rfl (by decide) (fun c2 => ?_) (fun c2 => ?_)
    · refine mw_iconst (n := 15) (v := 0) dX2_takesTotal_14 rfl (by decide) ?_
      exact mw_topeq (if_pos c2).symm J
    · refine mw_iconst (n := 11) (v := 1) dX2_takesTotal_10 rfl (by decide) ?_
      refine mw_goto (n := 15) dX2_takesTotal_11 (by decide) ?_
      exact mw_topeq (if_neg c2).symm J
  refine mw_letI (fun u3 => ?_)
  refine mw_istore (n := 17) dX2_takesTotal_15 rfl (by decide) rfl ?_
  refine mw_iload (n := 19) (q := 0) dX2_takesTotal_17 rfl rfl ?_
  refine mw_if_eq (n := 22) (t := 36) dX2_takesTotal_19 rfl (by decide) Iff.rfl (fun c4 => ?_) (fun c4 => ?_)
  · refine mw_iload (n := 38) (q := 0) dX2_takesTotal_36 rfl rfl ?_
    exact mw_zretC dX2_takesTotal_38 rfl rfl
  · refine mw_aload_n (n := 23) (q := 1) dX2_takesTotal_22 rfl rfl rfl ?_
    refine mw_getr (n := 26) (a := t) (k := 0) cl2 ht (by decide) rfl rfl fl_X2_12 dX2_takesTotal_23 rfl ?_
    refine mw_iload_n (n := 27) (q := 2) dX2_takesTotal_26 rfl rfl rfl ?_
    refine mw_iload_n (n := 28) (q := 3) dX2_takesTotal_27 rfl rfl rfl ?_
    refine mw_iload_n (n := 29) (q := 4) dX2_takesTotal_28 rfl rfl rfl ?_
    refine mw_callV (n := 32) (a := (t + 1)) (As := [.int p0, .int p1, .int p2]) cl6 (mk2_1 hg ht) (t_X6_putTotal hg (t + 1) p0 p1 p2 (mk2_1 hg ht) h) (by decide) ok_X6_putTotal rfl rfl lk_X2_119 im_X6_putTotal se_X6_putTotal dX2_takesTotal_29 rfl rfl (Nat.le_of_ble_eq_true rfl) (fun q5 _ => ?_)
    show mw g l _ _ _ 32 _ [] q5 _
    refine mw_aload_n (n := 33) (q := 1) dX2_takesTotal_32 rfl rfl rfl ?_
    refine mw_callV (n := 36) (a := t) (As := []) cl2 ht (t_X2_settle hg N t ht q5) (by decide) ok_X2_settle rfl rfl lk_X2_112 im_X2_settle se_X2_settle dX2_takesTotal_33 rfl rfl (Nat.le_of_ble_eq_true rfl) (fun q6 _ => ?_)
    show mw g l _ _ _ 36 _ [] q6 _
    refine mw_iload (n := 38) (q := 0) dX2_takesTotal_36 rfl rfl ?_
    exact mw_zretC dX2_takesTotal_38 rfl rfl
noncomputable def x_X2_takes (N : Nat) (t : Nat) (p0 : Int32) (h : mH) : Option (Int32 × mH) :=
  mlet (p0 / (10000 : Int32)) fun u1 =>
  mlet (xrem (p0 / (1000 : Int32)) (10 : Int32)) fun u2 =>
  mlet (xrem (p0 / (100 : Int32)) (10 : Int32)) fun u3 =>
  mlet (xrem (p0 / (10 : Int32)) (10 : Int32)) fun u4 =>
  mlet (xrem p0 (10 : Int32)) fun u5 =>
  if u1 = (1 : Int32) then
    (x_X2_takesSwitch t u2 u3 u4 u5 h).bind fun q7 =>
    mzc q7.1 (some (q7.1, q7.2))
  else if u1 = (2 : Int32) then
    if ¬ u4 = 0 then
      some ((0 : Int32), h)
    else
      (x_X2_takesPin N t (((10 : Int32) * u2) + u3) u5 h).bind fun q10 =>
      some ((if q10.1 = 0 then (0 : Int32) else (1 : Int32)), q10.2)
  else if u1 = (3 : Int32) then
    if ¬ u4 = 0 then
      some ((0 : Int32), h)
    else
      (x_X2_takesTotal N t u2 u3 u5 h).bind fun q14 =>
      some ((if q14.1 = 0 then (0 : Int32) else (1 : Int32)), q14.2)
  else if u1 = (4 : Int32) then
    if ¬ u4 = 0 then
      some ((0 : Int32), h)
    else
      (x_X6_hasCell (t + 1) (((10 : Int32) * u2) + u3) h).bind fun q18 =>
      if q18 = 0 then
        some ((0 : Int32), h)
      else
        (x_X2_planeAt t (((10 : Int32) * u2) + u3) h).bind fun q20 =>
        some ((if ¬ q20 = u5 then (0 : Int32) else (1 : Int32)), h)
  else if u1 = (5 : Int32) then
    if ¬ u4 = 0 then
      some ((0 : Int32), h)
    else
      (x_X6_hasCell (t + 1) (((10 : Int32) * u2) + u3) h).bind fun q24 =>
      if q24 = 0 then
        some ((0 : Int32), h)
      else
        (x_X1_sureAt (t + 4) (((10 : Int32) * u2) + u3) h).bind fun q26 =>
        some ((if ¬ q26 = u5 then (0 : Int32) else (1 : Int32)), h)
  else if u1 = (6 : Int32) then
    some ((if ¬ u2 = 0 then (0 : Int32) else (if (mgi h (t + 4) 3) < ((((100 : Int32) * u3) + ((10 : Int32) * u4)) + u5) then (0 : Int32) else (1 : Int32))), h)
  else some ((0 : Int32), h)
set_option maxRecDepth 20000 in
set_option maxHeartbeats 4000000 in
theorem t_X2_takes {g : mG} {l : Launch} (hg : mOK g) (N : Nat) (t : Nat) (p0 : Int32) (ht : mkn g t 2) (h : mH) : mf g l 11 mX2_takes (fun r : Int32 × mH => (some (Value.int r.1), r.2)) [.ref (mad g t), .int p0] h (x_X2_takes N t p0 h) := by
  refine mf_of (by decide) (Nat.le_of_ble_eq_true rfl) ?_
  show mw g l 11 mX2_takes (fun r : Int32 × mH => (some (Value.int r.1), r.2)) 0 [(0, .ref (mad g t)), (1, .int p0)] [] h _
  unfold x_X2_takes
  refine mw_iload_n (n := 1) (q := 1) dX2_takes_0 rfl rfl rfl ?_
  refine mw_sipush (n := 4) (v := 10000) dX2_takes_1 rfl (by decide) ?_
  refine mw_idiv (n := 5) dX2_takes_4 rfl (by decide) ?_
  refine mw_letI (fun u1 => ?_)
  refine mw_istore_n (n := 6) dX2_takes_5 rfl rfl (by decide) rfl ?_
  refine mw_iload_n (n := 7) (q := 2) dX2_takes_6 rfl rfl rfl ?_
  refine mw_sipush (n := 10) (v := 1000) dX2_takes_7 rfl (by decide) ?_
  refine mw_idiv (n := 11) dX2_takes_10 rfl (by decide) ?_
  refine mw_bipush (n := 13) (v := 10) dX2_takes_11 rfl (by decide) ?_
  refine mw_irem (n := 14) dX2_takes_13 rfl (by decide) ?_
  refine mw_letI (fun u2 => ?_)
  refine mw_istore_n (n := 15) dX2_takes_14 rfl rfl (by decide) rfl ?_
  refine mw_iload_n (n := 16) (q := 3) dX2_takes_15 rfl rfl rfl ?_
  refine mw_bipush (n := 18) (v := 100) dX2_takes_16 rfl (by decide) ?_
  refine mw_idiv (n := 19) dX2_takes_18 rfl (by decide) ?_
  refine mw_bipush (n := 21) (v := 10) dX2_takes_19 rfl (by decide) ?_
  refine mw_irem (n := 22) dX2_takes_21 rfl (by decide) ?_
  refine mw_letI (fun u3 => ?_)
  refine mw_istore (n := 24) dX2_takes_22 rfl (by decide) rfl ?_
  refine mw_iload_n (n := 25) (q := 4) dX2_takes_24 rfl rfl rfl ?_
  refine mw_bipush (n := 27) (v := 10) dX2_takes_25 rfl (by decide) ?_
  refine mw_idiv (n := 28) dX2_takes_27 rfl (by decide) ?_
  refine mw_bipush (n := 30) (v := 10) dX2_takes_28 rfl (by decide) ?_
  refine mw_irem (n := 31) dX2_takes_30 rfl (by decide) ?_
  refine mw_letI (fun u4 => ?_)
  refine mw_istore (n := 33) dX2_takes_31 rfl (by decide) rfl ?_
  refine mw_iload_n (n := 34) (q := 5) dX2_takes_33 rfl rfl rfl ?_
  refine mw_bipush (n := 36) (v := 10) dX2_takes_34 rfl (by decide) ?_
  refine mw_irem (n := 37) dX2_takes_36 rfl (by decide) ?_
  refine mw_letI (fun u5 => ?_)
  refine mw_istore (n := 39) dX2_takes_37 rfl (by decide) rfl ?_
  refine mw_iload_n (n := 40) (q := 4) dX2_takes_39 rfl rfl rfl ?_
  refine mw_tcase (v := 1) (t := 80) dX2_takes_40 (by decide) (by decide) rfl (by decide) (fun c6 => ?_) (fun c6 => ?_)
  · refine mw_aload_n (n := 81) (q := 5) dX2_takes_80 rfl rfl rfl ?_
    refine mw_iload_n (n := 82) (q := 3) dX2_takes_81 rfl rfl rfl ?_
    refine mw_iload (n := 84) (q := 2) dX2_takes_82 rfl rfl ?_
    refine mw_iload (n := 86) (q := 1) dX2_takes_84 rfl rfl ?_
    refine mw_iload (n := 88) (q := 0) dX2_takes_86 rfl rfl ?_
    refine mw_callV (n := 91) (a := t) (As := [.int u2, .int u3, .int u4, .int u5]) cl2 ht (t_X2_takesSwitch hg t u2 u3 u4 u5 ht h) (by decide) ok_X2_takesSwitch rfl rfl lk_X2_80 im_X2_takesSwitch se_X2_takesSwitch dX2_takes_88 rfl rfl (Nat.le_of_ble_eq_true rfl) (fun q7 _ => ?_)
    show mw g l _ _ _ 91 _ [.int q7.1] q7.2 _
    exact mw_zretC dX2_takes_91 rfl rfl
  refine mw_tcase (v := 2) (t := 92) dX2_takes_40 (by decide) (by decide) rfl (by decide) (fun c8 => ?_) (fun c8 => ?_)
  · refine mw_iload (n := 94) (q := 1) dX2_takes_92 rfl rfl ?_
    refine mw_if_ne (n := 97) (t := 117) dX2_takes_94 rfl (by decide) Iff.rfl (fun c9 => ?_) (fun c9 => ?_)
    · refine mw_iconst (n := 118) (v := 0) dX2_takes_117 rfl (by decide) ?_
      exact mw_zret dX2_takes_118 rfl (Or.inl rfl) rfl
    · refine mw_aload_n (n := 98) (q := 5) dX2_takes_97 rfl rfl rfl ?_
      refine mw_bipush (n := 100) (v := 10) dX2_takes_98 rfl (by decide) ?_
      refine mw_iload_n (n := 101) (q := 3) dX2_takes_100 rfl rfl rfl ?_
      refine mw_imul (n := 102) dX2_takes_101 rfl ?_
      refine mw_iload (n := 104) (q := 2) dX2_takes_102 rfl rfl ?_
      refine mw_iadd (n := 105) dX2_takes_104 rfl ?_
      refine mw_iload (n := 107) (q := 0) dX2_takes_105 rfl rfl ?_
      refine mw_callV (n := 110) (a := t) (As := [.int (((10 : Int32) * u2) + u3), .int u5]) cl2 ht (t_X2_takesPin hg N t (((10 : Int32) * u2) + u3) u5 ht h) (by decide) ok_X2_takesPin rfl rfl lk_X2_84 im_X2_takesPin se_X2_takesPin dX2_takes_107 rfl rfl (Nat.le_of_ble_eq_true rfl) (fun q10 _ => ?_)
      show mw g l _ _ _ 110 _ [.int q10.1] q10.2 _
      refine mw_cutJ (pc' := 118) (lv' := [(6, .int u5), (5, .int u4), (4, .int u3), (3, .int u2), (2, .int u1), (0, .ref (mad g t)), (1, .int p0)]) (st' := [.int (if q10.1 = 0 then (0 : Int32) else (1 : Int32))]) (fun J => ?_) ?_
      · refine mw_if_eq_m (n := 113) (t := 117) dX2_takes_110 rfl (by decide) (fun c11 => ?_) (fun c11 => ?_)
        · refine mw_iconst (n := 118) (v := 0) dX2_takes_117 rfl (by decide) ?_
          exact mw_topeq (if_pos c11).symm J
        · refine mw_iconst (n := 114) (v := 1) dX2_takes_113 rfl (by decide) ?_
          refine mw_goto (n := 118) dX2_takes_114 (by decide) ?_
          exact mw_topeq (if_neg c11).symm J
      exact mw_zret dX2_takes_118 rfl (mz01 (Or.inl rfl) (Or.inr rfl)) rfl
  refine mw_tcase (v := 3) (t := 119) dX2_takes_40 (by decide) (by decide) rfl (by decide) (fun c12 => ?_) (fun c12 => ?_)
  · refine mw_iload (n := 121) (q := 1) dX2_takes_119 rfl rfl ?_
    refine mw_if_ne (n := 124) (t := 140) dX2_takes_121 rfl (by decide) Iff.rfl (fun c13 => ?_) (fun c13 => ?_)
    · refine mw_iconst (n := 141) (v := 0) dX2_takes_140 rfl (by decide) ?_
      exact mw_zret dX2_takes_141 rfl (Or.inl rfl) rfl
    · refine mw_aload_n (n := 125) (q := 5) dX2_takes_124 rfl rfl rfl ?_
      refine mw_iload_n (n := 126) (q := 3) dX2_takes_125 rfl rfl rfl ?_
      refine mw_iload (n := 128) (q := 2) dX2_takes_126 rfl rfl ?_
      refine mw_iload (n := 130) (q := 0) dX2_takes_128 rfl rfl ?_
      refine mw_callV (n := 133) (a := t) (As := [.int u2, .int u3, .int u5]) cl2 ht (t_X2_takesTotal hg N t u2 u3 u5 ht h) (by decide) ok_X2_takesTotal rfl rfl lk_X2_87 im_X2_takesTotal se_X2_takesTotal dX2_takes_130 rfl rfl (Nat.le_of_ble_eq_true rfl) (fun q14 _ => ?_)
      show mw g l _ _ _ 133 _ [.int q14.1] q14.2 _
      refine mw_cutJ (pc' := 141) (lv' := [(6, .int u5), (5, .int u4), (4, .int u3), (3, .int u2), (2, .int u1), (0, .ref (mad g t)), (1, .int p0)]) (st' := [.int (if q14.1 = 0 then (0 : Int32) else (1 : Int32))]) (fun J => ?_) ?_
      · refine mw_if_eq_m (n := 136) (t := 140) dX2_takes_133 rfl (by decide) (fun c15 => ?_) (fun c15 => ?_)
        · refine mw_iconst (n := 141) (v := 0) dX2_takes_140 rfl (by decide) ?_
          exact mw_topeq (if_pos c15).symm J
        · refine mw_iconst (n := 137) (v := 1) dX2_takes_136 rfl (by decide) ?_
          refine mw_goto (n := 141) dX2_takes_137 (by decide) ?_
          exact mw_topeq (if_neg c15).symm J
      exact mw_zret dX2_takes_141 rfl (mz01 (Or.inl rfl) (Or.inr rfl)) rfl
  refine mw_tcase (v := 4) (t := 142) dX2_takes_40 (by decide) (by decide) rfl (by decide) (fun c16 => ?_) (fun c16 => ?_)
  · refine mw_iload (n := 144) (q := 1) dX2_takes_142 rfl rfl ?_
    refine mw_if_ne (n := 147) (t := 184) dX2_takes_144 rfl (by decide) Iff.rfl (fun c17 => ?_) (fun c17 => ?_)
    · refine mw_iconst (n := 185) (v := 0) dX2_takes_184 rfl (by decide) ?_
      exact mw_zret dX2_takes_185 rfl (Or.inl rfl) rfl
    · refine mw_aload_n (n := 148) (q := 5) dX2_takes_147 rfl rfl rfl ?_
      refine mw_getr (n := 151) (a := t) (k := 0) cl2 ht (by decide) rfl rfl fl_X2_12 dX2_takes_148 rfl ?_
      refine mw_bipush (n := 153) (v := 10) dX2_takes_151 rfl (by decide) ?_
      refine mw_iload_n (n := 154) (q := 3) dX2_takes_153 rfl rfl rfl ?_
      refine mw_imul (n := 155) dX2_takes_154 rfl ?_
      refine mw_iload (n := 157) (q := 2) dX2_takes_155 rfl rfl ?_
      refine mw_iadd (n := 158) dX2_takes_157 rfl ?_
      refine mw_callV (n := 161) (a := (t + 1)) (As := [.int (((10 : Int32) * u2) + u3)]) cl6 (mk2_1 hg ht) (t_X6_hasCell hg (t + 1) (((10 : Int32) * u2) + u3) (mk2_1 hg ht) h) (by decide) ok_X6_hasCell rfl rfl lk_X2_70 im_X6_hasCell se_X6_hasCell dX2_takes_158 rfl rfl (Nat.le_of_ble_eq_true rfl) (fun q18 _ => ?_)
      show mw g l _ _ _ 161 _ [.int q18] h _
      refine mw_if_eq (n := 164) (t := 184) dX2_takes_161 rfl (by decide) Iff.rfl (fun c19 => ?_) (fun c19 => ?_)
      · refine mw_iconst (n := 185) (v := 0) dX2_takes_184 rfl (by decide) ?_
        exact mw_zret dX2_takes_185 rfl (Or.inl rfl) rfl
      · refine mw_aload_n (n := 165) (q := 5) dX2_takes_164 rfl rfl rfl ?_
        refine mw_bipush (n := 167) (v := 10) dX2_takes_165 rfl (by decide) ?_
        refine mw_iload_n (n := 168) (q := 3) dX2_takes_167 rfl rfl rfl ?_
        refine mw_imul (n := 169) dX2_takes_168 rfl ?_
        refine mw_iload (n := 171) (q := 2) dX2_takes_169 rfl rfl ?_
        refine mw_iadd (n := 172) dX2_takes_171 rfl ?_
        refine mw_callV (n := 175) (a := t) (As := [.int (((10 : Int32) * u2) + u3)]) cl2 ht (t_X2_planeAt hg t (((10 : Int32) * u2) + u3) ht h) (by decide) ok_X2_planeAt rfl rfl lk_X2_91 im_X2_planeAt se_X2_planeAt dX2_takes_172 rfl rfl (Nat.le_of_ble_eq_true rfl) (fun q20 _ => ?_)
        show mw g l _ _ _ 175 _ [.int q20] h _
        refine mw_iload (n := 177) (q := 0) dX2_takes_175 rfl rfl ?_
        refine mw_cutJ (pc' := 185) (lv' := [(6, .int u5), (5, .int u4), (4, .int u3), (3, .int u2), (2, .int u1), (0, .ref (mad g t)), (1, .int p0)]) (st' := [.int (if ¬ q20 = u5 then (0 : Int32) else (1 : Int32))]) (fun J => ?_) ?_
        · refine mw_icmp_ne_m (n := 180) (t := 184) dX2_takes_177 rfl (by decide) (fun c21 => ?_) (fun c21 => ?_)
          · refine mw_iconst (n := 185) (v := 0) dX2_takes_184 rfl (by decide) ?_
            exact mw_topeq (if_pos c21).symm J
          · refine mw_iconst (n := 181) (v := 1) dX2_takes_180 rfl (by decide) ?_
            refine mw_goto (n := 185) dX2_takes_181 (by decide) ?_
            exact mw_topeq (if_neg c21).symm J
        exact mw_zret dX2_takes_185 rfl (mz01 (Or.inl rfl) (Or.inr rfl)) rfl
  refine mw_tcase (v := 5) (t := 186) dX2_takes_40 (by decide) (by decide) rfl (by decide) (fun c22 => ?_) (fun c22 => ?_)
  · refine mw_iload (n := 188) (q := 1) dX2_takes_186 rfl rfl ?_
    refine mw_if_ne (n := 191) (t := 231) dX2_takes_188 rfl (by decide) Iff.rfl (fun c23 => ?_) (fun c23 => ?_)
    · refine mw_iconst (n := 232) (v := 0) dX2_takes_231 rfl (by decide) ?_
      exact mw_zret dX2_takes_232 rfl (Or.inl rfl) rfl
    · refine mw_aload_n (n := 192) (q := 5) dX2_takes_191 rfl rfl rfl ?_
      refine mw_getr (n := 195) (a := t) (k := 0) cl2 ht (by decide) rfl rfl fl_X2_12 dX2_takes_192 rfl ?_
      refine mw_bipush (n := 197) (v := 10) dX2_takes_195 rfl (by decide) ?_
      refine mw_iload_n (n := 198) (q := 3) dX2_takes_197 rfl rfl rfl ?_
      refine mw_imul (n := 199) dX2_takes_198 rfl ?_
      refine mw_iload (n := 201) (q := 2) dX2_takes_199 rfl rfl ?_
      refine mw_iadd (n := 202) dX2_takes_201 rfl ?_
      refine mw_callV (n := 205) (a := (t + 1)) (As := [.int (((10 : Int32) * u2) + u3)]) cl6 (mk2_1 hg ht) (t_X6_hasCell hg (t + 1) (((10 : Int32) * u2) + u3) (mk2_1 hg ht) h) (by decide) ok_X6_hasCell rfl rfl lk_X2_70 im_X6_hasCell se_X6_hasCell dX2_takes_202 rfl rfl (Nat.le_of_ble_eq_true rfl) (fun q24 _ => ?_)
      show mw g l _ _ _ 205 _ [.int q24] h _
      refine mw_if_eq (n := 208) (t := 231) dX2_takes_205 rfl (by decide) Iff.rfl (fun c25 => ?_) (fun c25 => ?_)
      · refine mw_iconst (n := 232) (v := 0) dX2_takes_231 rfl (by decide) ?_
        exact mw_zret dX2_takes_232 rfl (Or.inl rfl) rfl
      · refine mw_aload_n (n := 209) (q := 5) dX2_takes_208 rfl rfl rfl ?_
        refine mw_getr (n := 212) (a := t) (k := 1) cl2 ht (by decide) rfl rfl fl_X2_21 dX2_takes_209 rfl ?_
        refine mw_bipush (n := 214) (v := 10) dX2_takes_212 rfl (by decide) ?_
        refine mw_iload_n (n := 215) (q := 3) dX2_takes_214 rfl rfl rfl ?_
        refine mw_imul (n := 216) dX2_takes_215 rfl ?_
        refine mw_iload (n := 218) (q := 2) dX2_takes_216 rfl rfl ?_
        refine mw_iadd (n := 219) dX2_takes_218 rfl ?_
        refine mw_callV (n := 222) (a := (t + 4)) (As := [.int (((10 : Int32) * u2) + u3)]) cl1 (mk2_4 hg ht) (t_X1_sureAt hg (t + 4) (((10 : Int32) * u2) + u3) (mk2_4 hg ht) h) (by decide) ok_X1_sureAt rfl rfl lk_X2_94 im_X1_sureAt se_X1_sureAt dX2_takes_219 rfl rfl (Nat.le_of_ble_eq_true rfl) (fun q26 _ => ?_)
        show mw g l _ _ _ 222 _ [.int q26] h _
        refine mw_iload (n := 224) (q := 0) dX2_takes_222 rfl rfl ?_
        refine mw_cutJ (pc' := 232) (lv' := [(6, .int u5), (5, .int u4), (4, .int u3), (3, .int u2), (2, .int u1), (0, .ref (mad g t)), (1, .int p0)]) (st' := [.int (if ¬ q26 = u5 then (0 : Int32) else (1 : Int32))]) (fun J => ?_) ?_
        · refine mw_icmp_ne_m (n := 227) (t := 231) dX2_takes_224 rfl (by decide) (fun c27 => ?_) (fun c27 => ?_)
          · refine mw_iconst (n := 232) (v := 0) dX2_takes_231 rfl (by decide) ?_
            exact mw_topeq (if_pos c27).symm J
          · refine mw_iconst (n := 228) (v := 1) dX2_takes_227 rfl (by decide) ?_
            refine mw_goto (n := 232) dX2_takes_228 (by decide) ?_
            exact mw_topeq (if_neg c27).symm J
        exact mw_zret dX2_takes_232 rfl (mz01 (Or.inl rfl) (Or.inr rfl)) rfl
  refine mw_tcase (v := 6) (t := 233) dX2_takes_40 (by decide) (by decide) rfl (by decide) (fun c28 => ?_) (fun c28 => ?_)
  · refine mw_iload_n (n := 234) (q := 3) dX2_takes_233 rfl rfl rfl ?_
    refine mw_cutJ (pc' := 266) (lv' := [(6, .int u5), (5, .int u4), (4, .int u3), (3, .int u2), (2, .int u1), (0, .ref (mad g t)), (1, .int p0)]) (st' := [.int (if ¬ u2 = 0 then (0 : Int32) else (if (mgi h (t + 4) 3) < ((((100 : Int32) * u3) + ((10 : Int32) * u4)) + u5) then (0 : Int32) else (1 : Int32)))]) (fun J => ?_) ?_
    · refine mw_if_ne_m (n := 237) (t := 265) dX2_takes_234 rfl (by decide) (fun c29 => ?_) (fun c29 => ?_)
      · refine mw_iconst (n := 266) (v := 0) dX2_takes_265 rfl (by decide) ?_
        exact mw_topeq (if_pos c29).symm J
      · refine mw_aload_n (n := 238) (q := 5) dX2_takes_237 rfl rfl rfl ?_
        refine mw_getr (n := 241) (a := t) (k := 1) cl2 ht (by decide) rfl rfl fl_X2_21 dX2_takes_238 rfl ?_
        refine mw_geti (n := 244) (a := (t + 4)) (k := 3) cl1 (mk2_4 hg ht) (by decide) rfl rfl fl_X2_37 dX2_takes_241 rfl ?_
        refine mw_bipush (n := 246) (v := 100) dX2_takes_244 rfl (by decide) ?_
        refine mw_iload (n := 248) (q := 2) dX2_takes_246 rfl rfl ?_
        refine mw_imul (n := 249) dX2_takes_248 rfl ?_
        refine mw_bipush (n := 251) (v := 10) dX2_takes_249 rfl (by decide) ?_
        refine mw_iload (n := 253) (q := 1) dX2_takes_251 rfl rfl ?_
        refine mw_imul (n := 254) dX2_takes_253 rfl ?_
        refine mw_iadd (n := 255) dX2_takes_254 rfl ?_
        refine mw_iload (n := 257) (q := 0) dX2_takes_255 rfl rfl ?_
        refine mw_iadd (n := 258) dX2_takes_257 rfl ?_
        refine mw_icmp_lt_m (n := 261) (t := 265) dX2_takes_258 rfl (by decide) (fun c30 => ?_) (fun c30 => ?_)
        · refine mw_iconst (n := 266) (v := 0) dX2_takes_265 rfl (by decide) ?_
          exact mw_topeq ((if_neg c29).trans (if_pos c30)).symm J
        · refine mw_iconst (n := 262) (v := 1) dX2_takes_261 rfl (by decide) ?_
          refine mw_goto (n := 266) dX2_takes_262 (by decide) ?_
          exact mw_topeq ((if_neg c29).trans (if_neg c30)).symm J
    exact mw_zret dX2_takes_266 rfl (mz01 (Or.inl rfl) (mz01 (Or.inl rfl) (Or.inr rfl))) rfl
  refine mw_tdef (t := 267) dX2_takes_40 (by have e0 : u1.toInt ≠ 1 := sw_ne c6 (by decide); have e1 : u1.toInt ≠ 2 := sw_ne c8 (by decide); have e2 : u1.toInt ≠ 3 := sw_ne c12 (by decide); have e3 : u1.toInt ≠ 4 := sw_ne c16 (by decide); have e4 : u1.toInt ≠ 5 := sw_ne c22 (by decide); have e5 : u1.toInt ≠ 6 := sw_ne c28 (by decide); omega) (by decide) ?_
  refine mw_iconst (n := 268) (v := 0) dX2_takes_267 rfl (by decide) ?_
  exact mw_zret dX2_takes_268 rfl (Or.inl rfl) rfl
noncomputable def x_X2_tellingApart_55 (N : Nat) (self4 : Int32 → Int32 → Option (Int32)) (r0 : Nat) (v1 : Int32) (v2 : Int32) (v3 : Int32) (h : mH) : Option (Int32) :=
  self4 v2 (v3 + (1 : Int32))
set_option maxRecDepth 20000 in
set_option maxHeartbeats 4000000 in
theorem b_X2_tellingApart_55 {g : mG} {l : Launch} (hg : mOK g) (N : Nat) (r0 : Nat) (v1 : Int32) (v2 : Int32) (v3 : Int32) (h : mH) (self4 : Int32 → Int32 → Option (Int32)) (hself4 : ∀ (v2 : Int32) (v3 : Int32), mw g l 0 mX2_tellingApart (fun r : Int32 => (some (Value.int r), h)) 4 [(0, .ref (mad g r0)), (1, .int v1), (2, .int v2), (3, .int v3)] [] h (self4 v2 v3)) (hr0 : mkn g r0 2) : mw g l 0 mX2_tellingApart (fun r : Int32 => (some (Value.int r), h)) 55 [(0, .ref (mad g r0)), (1, .int v1), (2, .int v2), (3, .int v3)] [] h (x_X2_tellingApart_55 N self4 r0 v1 v2 v3 h) := by
  unfold x_X2_tellingApart_55
  refine mw_iinc (n := 58) (q := 3) (v := (v3 + (1 : Int32))) dX2_tellingApart_55 rfl rfl rfl (by decide) rfl ?_
  refine mw_goto (n := 4) dX2_tellingApart_58 (by decide) ?_
  refine mw_sub [1, 2, 3, 0] rfl ?_
  exact hself4 v2 (v3 + (1 : Int32))
noncomputable def x_X2_tellingApart_4 (N : Nat) (r0 : Nat) (v1 : Int32) (h : mH) (f : Nat) : Int32 → Int32 → Option (Int32) :=
  Nat.rec (motive := fun _ => Int32 → Int32 → Option (Int32)) (fun _ _ => none) (fun _ self4 => fun v2 v3 => 
    if (mgi h (r0 + 4) 3) ≤ v3 then
      some v2
    else
      if v2 = 0 then
        some v2
      else
        mck v3 310 <|
        mlet ((mgi h ((r0 + 4) + 2) (v3).toNatClampNeg) ^^^ (mgi h (r0 + 1) 6)) fun u3 =>
        if u3 = 0 then
          x_X2_tellingApart_55 N self4 r0 v1 v2 v3 h
        else
          if ¬ (u3 &&& v1) = 0 then
            x_X2_tellingApart_55 N self4 r0 v1 v2 v3 h
          else
            mlet (v2 &&& u3) fun u6 =>
            x_X2_tellingApart_55 N self4 r0 v1 u6 v3 h) f
theorem x_X2_tellingApart_4_0 (N : Nat) (r0 : Nat) (v1 : Int32) (h : mH) (v2 : Int32) (v3 : Int32) : x_X2_tellingApart_4 N r0 v1 h 0 v2 v3 = none := rfl
theorem x_X2_tellingApart_4_s (N : Nat) (r0 : Nat) (v1 : Int32) (h : mH) (f : Nat) (v2 : Int32) (v3 : Int32) : x_X2_tellingApart_4 N r0 v1 h (f + 1) v2 v3 = (
    if (mgi h (r0 + 4) 3) ≤ v3 then
      some v2
    else
      if v2 = 0 then
        some v2
      else
        mck v3 310 <|
        mlet ((mgi h ((r0 + 4) + 2) (v3).toNatClampNeg) ^^^ (mgi h (r0 + 1) 6)) fun u3 =>
        if u3 = 0 then
          x_X2_tellingApart_55 N (x_X2_tellingApart_4 N r0 v1 h f) r0 v1 v2 v3 h
        else
          if ¬ (u3 &&& v1) = 0 then
            x_X2_tellingApart_55 N (x_X2_tellingApart_4 N r0 v1 h f) r0 v1 v2 v3 h
          else
            mlet (v2 &&& u3) fun u6 =>
            x_X2_tellingApart_55 N (x_X2_tellingApart_4 N r0 v1 h f) r0 v1 u6 v3 h) := rfl
set_option maxRecDepth 20000 in
set_option maxHeartbeats 4000000 in
theorem b_X2_tellingApart_4 {g : mG} {l : Launch} (hg : mOK g) (N : Nat) (r0 : Nat) (v1 : Int32) (h : mH) (hr0 : mkn g r0 2) (f : Nat) : ∀ (v2 : Int32) (v3 : Int32), mw g l 0 mX2_tellingApart (fun r : Int32 => (some (Value.int r), h)) 4 [(0, .ref (mad g r0)), (1, .int v1), (2, .int v2), (3, .int v3)] [] h (x_X2_tellingApart_4 N r0 v1 h f v2 v3) := by
  induction f with
  | zero => intros; exact mw_none
  | succ f hself4 =>
    intro v2 v3
    refine mw_eq (x_X2_tellingApart_4_s N r0 v1 h f v2 v3) ?_
    generalize x_X2_tellingApart_4 N r0 v1 h f = self4 at hself4 ⊢
    refine mw_iload_n (n := 5) (q := 3) dX2_tellingApart_4 rfl rfl rfl ?_
    refine mw_aload_n (n := 6) (q := 0) dX2_tellingApart_5 rfl rfl rfl ?_
    refine mw_getr (n := 9) (a := r0) (k := 1) cl2 hr0 (by decide) rfl rfl fl_X2_21 dX2_tellingApart_6 rfl ?_
    refine mw_geti (n := 12) (a := (r0 + 4)) (k := 3) cl1 (mk2_4 hg hr0) (by decide) rfl rfl fl_X2_37 dX2_tellingApart_9 rfl ?_
    refine mw_icmp_ge (n := 15) (t := 61) dX2_tellingApart_12 rfl (by decide) Iff.rfl (fun c1 => ?_) (fun c1 => ?_)
    · refine mw_iload_n (n := 62) (q := 2) dX2_tellingApart_61 rfl rfl rfl ?_
      exact mw_iret dX2_tellingApart_62 rfl rfl
    · refine mw_iload_n (n := 16) (q := 2) dX2_tellingApart_15 rfl rfl rfl ?_
      refine mw_if_eq (n := 19) (t := 61) dX2_tellingApart_16 rfl (by decide) Iff.rfl (fun c2 => ?_) (fun c2 => ?_)
      · refine mw_iload_n (n := 62) (q := 2) dX2_tellingApart_61 rfl rfl rfl ?_
        exact mw_iret dX2_tellingApart_62 rfl rfl
      · refine mw_aload_n (n := 20) (q := 0) dX2_tellingApart_19 rfl rfl rfl ?_
        refine mw_getr (n := 23) (a := r0) (k := 1) cl2 hr0 (by decide) rfl rfl fl_X2_21 dX2_tellingApart_20 rfl ?_
        refine mw_getr (n := 26) (a := (r0 + 4)) (k := 2) cl1 (mk2_4 hg hr0) (by decide) rfl rfl fl_X2_40 dX2_tellingApart_23 rfl ?_
        refine mw_iload_n (n := 27) (q := 3) dX2_tellingApart_26 rfl rfl rfl ?_
        refine mw_iald (n := 28) (a := ((r0 + 4) + 2)) (N := 310) (mk1_2 hg (mk2_4 hg hr0)) dX2_tellingApart_27 rfl ?_
        refine mw_aload_n (n := 29) (q := 0) dX2_tellingApart_28 rfl rfl rfl ?_
        refine mw_getr (n := 32) (a := r0) (k := 0) cl2 hr0 (by decide) rfl rfl fl_X2_12 dX2_tellingApart_29 rfl ?_
        refine mw_geti (n := 35) (a := (r0 + 1)) (k := 6) cl6 (mk2_1 hg hr0) (by decide) rfl rfl fl_X2_29 dX2_tellingApart_32 rfl ?_
        refine mw_ixor (n := 36) dX2_tellingApart_35 rfl ?_
        refine mw_letI (fun u3 => ?_)
        refine mw_istore (n := 38) dX2_tellingApart_36 rfl (by decide) rfl ?_
        refine mw_iload (n := 40) (q := 0) dX2_tellingApart_38 rfl rfl ?_
        refine mw_if_eq (n := 43) (t := 55) dX2_tellingApart_40 rfl (by decide) Iff.rfl (fun c4 => ?_) (fun c4 => ?_)
        · refine mw_sub [1, 2, 3, 4] rfl ?_
          exact b_X2_tellingApart_55 hg N r0 v1 v2 v3 h self4 hself4 hr0
        · refine mw_iload (n := 45) (q := 0) dX2_tellingApart_43 rfl rfl ?_
          refine mw_iload_n (n := 46) (q := 2) dX2_tellingApart_45 rfl rfl rfl ?_
          refine mw_iand (n := 47) dX2_tellingApart_46 rfl ?_
          refine mw_if_ne (n := 50) (t := 55) dX2_tellingApart_47 rfl (by decide) Iff.rfl (fun c5 => ?_) (fun c5 => ?_)
          · refine mw_sub [1, 2, 3, 4] rfl ?_
            exact b_X2_tellingApart_55 hg N r0 v1 v2 v3 h self4 hself4 hr0
          · refine mw_iload_n (n := 51) (q := 3) dX2_tellingApart_50 rfl rfl rfl ?_
            refine mw_iload (n := 53) (q := 0) dX2_tellingApart_51 rfl rfl ?_
            refine mw_iand (n := 54) dX2_tellingApart_53 rfl ?_
            refine mw_letI (fun u6 => ?_)
            refine mw_istore_n (n := 55) dX2_tellingApart_54 rfl rfl (by decide) rfl ?_
            refine mw_sub [2, 3, 0, 4] rfl ?_
            exact b_X2_tellingApart_55 hg N r0 v1 u6 v3 h self4 hself4 hr0
noncomputable def x_X2_tellingApart (N : Nat) (t : Nat) (p0 : Int32) (h : mH) : Option (Int32) :=
  x_X2_tellingApart_4 N t p0 h N (-1 : Int32) (0 : Int32)
set_option maxRecDepth 20000 in
set_option maxHeartbeats 4000000 in
theorem t_X2_tellingApart {g : mG} {l : Launch} (hg : mOK g) (N : Nat) (t : Nat) (p0 : Int32) (ht : mkn g t 2) (h : mH) : mf g l 0 mX2_tellingApart (fun r : Int32 => (some (Value.int r), h)) [.ref (mad g t), .int p0] h (x_X2_tellingApart N t p0 h) := by
  refine mf_of (by decide) (Nat.le_of_ble_eq_true rfl) ?_
  show mw g l 0 mX2_tellingApart (fun r : Int32 => (some (Value.int r), h)) 0 [(0, .ref (mad g t)), (1, .int p0)] [] h _
  unfold x_X2_tellingApart
  refine mw_iconst (n := 1) (v := -1) dX2_tellingApart_0 rfl (by decide) ?_
  refine mw_istore_n (n := 2) dX2_tellingApart_1 rfl rfl (by decide) rfl ?_
  refine mw_iconst (n := 3) (v := 0) dX2_tellingApart_2 rfl (by decide) ?_
  refine mw_istore_n (n := 4) dX2_tellingApart_3 rfl rfl (by decide) rfl ?_
  refine mw_sub [2, 3, 1, 0] rfl ?_
  exact b_X2_tellingApart_4 hg N t p0 h ht N (-1 : Int32) (0 : Int32)
noncomputable def x_X2_findKeyOfTwo_2 (N : Nat) (r0 : Nat) (h : mH) (f : Nat) : Int32 → Option (Int32) :=
  Nat.rec (motive := fun _ => Int32 → Option (Int32)) (fun _ => none) (fun _ self2 => fun v1 => 
    (x_X6_cells (r0 + 1) h).bind fun q1 =>
    if q1 ≤ v1 then
      some (-9 : Int32)
    else
      (x_X8_bitOf v1).bind fun q3 =>
      (x_X2_tellingApart N r0 q3 h).bind fun q4 =>
      (x_X8_leastCell N q4).bind fun q5 =>
      if q5 = (-9 : Int32) then
        self2 (v1 + (1 : Int32))
      else
        some ((((100 : Int32) * (v1 + (1 : Int32))) + q5) + (1 : Int32))) f
theorem x_X2_findKeyOfTwo_2_0 (N : Nat) (r0 : Nat) (h : mH) (v1 : Int32) : x_X2_findKeyOfTwo_2 N r0 h 0 v1 = none := rfl
theorem x_X2_findKeyOfTwo_2_s (N : Nat) (r0 : Nat) (h : mH) (f : Nat) (v1 : Int32) : x_X2_findKeyOfTwo_2 N r0 h (f + 1) v1 = (
    (x_X6_cells (r0 + 1) h).bind fun q1 =>
    if q1 ≤ v1 then
      some (-9 : Int32)
    else
      (x_X8_bitOf v1).bind fun q3 =>
      (x_X2_tellingApart N r0 q3 h).bind fun q4 =>
      (x_X8_leastCell N q4).bind fun q5 =>
      if q5 = (-9 : Int32) then
        (x_X2_findKeyOfTwo_2 N r0 h f) (v1 + (1 : Int32))
      else
        some ((((100 : Int32) * (v1 + (1 : Int32))) + q5) + (1 : Int32))) := rfl
set_option maxRecDepth 20000 in
set_option maxHeartbeats 4000000 in
theorem b_X2_findKeyOfTwo_2 {g : mG} {l : Launch} (hg : mOK g) (N : Nat) (r0 : Nat) (h : mH) (hr0 : mkn g r0 2) (f : Nat) : ∀ (v1 : Int32), mw g l 2 mX2_findKeyOfTwo (fun r : Int32 => (some (Value.int r), h)) 2 [(0, .ref (mad g r0)), (1, .int v1)] [] h (x_X2_findKeyOfTwo_2 N r0 h f v1) := by
  induction f with
  | zero => intros; exact mw_none
  | succ f hself2 =>
    intro v1
    refine mw_eq (x_X2_findKeyOfTwo_2_s N r0 h f v1) ?_
    generalize x_X2_findKeyOfTwo_2 N r0 h f = self2 at hself2 ⊢
    refine mw_iload_n (n := 3) (q := 1) dX2_findKeyOfTwo_2 rfl rfl rfl ?_
    refine mw_aload_n (n := 4) (q := 0) dX2_findKeyOfTwo_3 rfl rfl rfl ?_
    refine mw_getr (n := 7) (a := r0) (k := 0) cl2 hr0 (by decide) rfl rfl fl_X2_12 dX2_findKeyOfTwo_4 rfl ?_
    refine mw_callV (n := 10) (a := (r0 + 1)) (As := []) cl6 (mk2_1 hg hr0) (t_X6_cells hg (r0 + 1) (mk2_1 hg hr0) h) (by decide) ok_X6_cells rfl rfl lk_X2_135 im_X6_cells se_X6_cells dX2_findKeyOfTwo_7 rfl rfl (Nat.le_of_ble_eq_true rfl) (fun q1 _ => ?_)
    show mw g l _ _ _ 10 _ [.int q1, .int v1] h _
    refine mw_icmp_ge (n := 13) (t := 48) dX2_findKeyOfTwo_10 rfl (by decide) Iff.rfl (fun c2 => ?_) (fun c2 => ?_)
    · refine mw_bipush (n := 50) (v := -9) dX2_findKeyOfTwo_48 rfl (by decide) ?_
      exact mw_iret dX2_findKeyOfTwo_50 rfl rfl
    · refine mw_aload_n (n := 14) (q := 0) dX2_findKeyOfTwo_13 rfl rfl rfl ?_
      refine mw_iload_n (n := 15) (q := 1) dX2_findKeyOfTwo_14 rfl rfl rfl ?_
      refine mw_callN (n := 18) (As := [.int v1]) (t_X8_bitOf hg v1 h) (by decide) ok_X8_bitOf rfl ln_X2_138 sm_X8_bitOf dX2_findKeyOfTwo_15 rfl rfl (Nat.le_of_ble_eq_true rfl) (fun q3 _ => ?_)
      show mw g l _ _ _ 18 _ [.int q3, .ref (mad g r0)] h _
      refine mw_callV (n := 21) (a := r0) (As := [.int q3]) cl2 hr0 (t_X2_tellingApart hg N r0 q3 hr0 h) (by decide) ok_X2_tellingApart rfl rfl lk_X2_123 im_X2_tellingApart se_X2_tellingApart dX2_findKeyOfTwo_18 rfl rfl (Nat.le_of_ble_eq_true rfl) (fun q4 _ => ?_)
      show mw g l _ _ _ 21 _ [.int q4] h _
      refine mw_callN (n := 24) (As := [.int q4]) (t_X8_leastCell hg N q4 h) (by decide) ok_X8_leastCell rfl ln_X2_126 sm_X8_leastCell dX2_findKeyOfTwo_21 rfl rfl (Nat.le_of_ble_eq_true rfl) (fun q5 _ => ?_)
      show mw g l _ _ _ 24 _ [.int q5] h _
      refine mw_istore_n (n := 25) dX2_findKeyOfTwo_24 rfl rfl (by decide) rfl ?_
      refine mw_iload_n (n := 26) (q := 0) dX2_findKeyOfTwo_25 rfl rfl rfl ?_
      refine mw_bipush (n := 28) (v := -9) dX2_findKeyOfTwo_26 rfl (by decide) ?_
      refine mw_icmp_eq (n := 31) (t := 42) dX2_findKeyOfTwo_28 rfl (by decide) Iff.rfl (fun c6 => ?_) (fun c6 => ?_)
      · refine mw_iinc (n := 45) (q := 2) (v := (v1 + (1 : Int32))) dX2_findKeyOfTwo_42 rfl rfl rfl (by decide) rfl ?_
        refine mw_goto (n := 2) dX2_findKeyOfTwo_45 (by decide) ?_
        refine mw_sub [2, 0] rfl ?_
        exact hself2 (v1 + (1 : Int32))
      · refine mw_bipush (n := 33) (v := 100) dX2_findKeyOfTwo_31 rfl (by decide) ?_
        refine mw_iload_n (n := 34) (q := 2) dX2_findKeyOfTwo_33 rfl rfl rfl ?_
        refine mw_iconst (n := 35) (v := 1) dX2_findKeyOfTwo_34 rfl (by decide) ?_
        refine mw_iadd (n := 36) dX2_findKeyOfTwo_35 rfl ?_
        refine mw_imul (n := 37) dX2_findKeyOfTwo_36 rfl ?_
        refine mw_iload_n (n := 38) (q := 0) dX2_findKeyOfTwo_37 rfl rfl rfl ?_
        refine mw_iadd (n := 39) dX2_findKeyOfTwo_38 rfl ?_
        refine mw_iconst (n := 40) (v := 1) dX2_findKeyOfTwo_39 rfl (by decide) ?_
        refine mw_iadd (n := 41) dX2_findKeyOfTwo_40 rfl ?_
        exact mw_iret dX2_findKeyOfTwo_41 rfl rfl
noncomputable def x_X2_findKeyOfTwo (N : Nat) (t : Nat) (h : mH) : Option (Int32) :=
  x_X2_findKeyOfTwo_2 N t h N (0 : Int32)
set_option maxRecDepth 20000 in
set_option maxHeartbeats 4000000 in
theorem t_X2_findKeyOfTwo {g : mG} {l : Launch} (hg : mOK g) (N : Nat) (t : Nat) (ht : mkn g t 2) (h : mH) : mf g l 2 mX2_findKeyOfTwo (fun r : Int32 => (some (Value.int r), h)) [.ref (mad g t)] h (x_X2_findKeyOfTwo N t h) := by
  refine mf_of (by decide) (Nat.le_of_ble_eq_true rfl) ?_
  show mw g l 2 mX2_findKeyOfTwo (fun r : Int32 => (some (Value.int r), h)) 0 [(0, .ref (mad g t))] [] h _
  unfold x_X2_findKeyOfTwo
  refine mw_iconst (n := 1) (v := 0) dX2_findKeyOfTwo_0 rfl (by decide) ?_
  refine mw_istore_n (n := 2) dX2_findKeyOfTwo_1 rfl rfl (by decide) rfl ?_
  refine mw_sub [1, 0] rfl ?_
  exact b_X2_findKeyOfTwo_2 hg N t h ht N (0 : Int32)
noncomputable def x_X2_findKeyOfThree_17 (N : Nat) (self2 : Int32 → Option (Int32)) (r0 : Nat) (v1 : Int32) (h : mH) (f : Nat) : Int32 → Option (Int32) :=
  Nat.rec (motive := fun _ => Int32 → Option (Int32)) (fun _ => none) (fun _ self17 => fun v2 => 
    (x_X6_cells (r0 + 1) h).bind fun q1 =>
    if q1 ≤ v2 then
      self2 (v1 + (1 : Int32))
    else
      (x_X8_bitOf v1).bind fun q3 =>
      (x_X8_bitOf v2).bind fun q4 =>
      (x_X2_tellingApart N r0 (q3 ||| q4) h).bind fun q5 =>
      (x_X8_leastCell N q5).bind fun q6 =>
      if q6 = (-9 : Int32) then
        self17 (v2 + (1 : Int32))
      else
        some (((((10000 : Int32) * (v1 + (1 : Int32))) + ((100 : Int32) * (v2 + (1 : Int32)))) + q6) + (1 : Int32))) f
theorem x_X2_findKeyOfThree_17_0 (N : Nat) (self2 : Int32 → Option (Int32)) (r0 : Nat) (v1 : Int32) (h : mH) (v2 : Int32) : x_X2_findKeyOfThree_17 N self2 r0 v1 h 0 v2 = none := rfl
theorem x_X2_findKeyOfThree_17_s (N : Nat) (self2 : Int32 → Option (Int32)) (r0 : Nat) (v1 : Int32) (h : mH) (f : Nat) (v2 : Int32) : x_X2_findKeyOfThree_17 N self2 r0 v1 h (f + 1) v2 = (
    (x_X6_cells (r0 + 1) h).bind fun q1 =>
    if q1 ≤ v2 then
      self2 (v1 + (1 : Int32))
    else
      (x_X8_bitOf v1).bind fun q3 =>
      (x_X8_bitOf v2).bind fun q4 =>
      (x_X2_tellingApart N r0 (q3 ||| q4) h).bind fun q5 =>
      (x_X8_leastCell N q5).bind fun q6 =>
      if q6 = (-9 : Int32) then
        (x_X2_findKeyOfThree_17 N self2 r0 v1 h f) (v2 + (1 : Int32))
      else
        some (((((10000 : Int32) * (v1 + (1 : Int32))) + ((100 : Int32) * (v2 + (1 : Int32)))) + q6) + (1 : Int32))) := rfl
set_option maxRecDepth 20000 in
set_option maxHeartbeats 4000000 in
theorem b_X2_findKeyOfThree_17 {g : mG} {l : Launch} (hg : mOK g) (N : Nat) (r0 : Nat) (v1 : Int32) (h : mH) (self2 : Int32 → Option (Int32)) (hself2 : ∀ (v1 : Int32), mw g l 2 mX2_findKeyOfThree (fun r : Int32 => (some (Value.int r), h)) 2 [(0, .ref (mad g r0)), (1, .int v1)] [] h (self2 v1)) (hr0 : mkn g r0 2) (f : Nat) : ∀ (v2 : Int32), mw g l 2 mX2_findKeyOfThree (fun r : Int32 => (some (Value.int r), h)) 17 [(0, .ref (mad g r0)), (1, .int v1), (2, .int v2)] [] h (x_X2_findKeyOfThree_17 N self2 r0 v1 h f v2) := by
  induction f with
  | zero => intros; exact mw_none
  | succ f hself17 =>
    intro v2
    refine mw_eq (x_X2_findKeyOfThree_17_s N self2 r0 v1 h f v2) ?_
    generalize x_X2_findKeyOfThree_17 N self2 r0 v1 h f = self17 at hself17 ⊢
    refine mw_iload_n (n := 18) (q := 2) dX2_findKeyOfThree_17 rfl rfl rfl ?_
    refine mw_aload_n (n := 19) (q := 0) dX2_findKeyOfThree_18 rfl rfl rfl ?_
    refine mw_getr (n := 22) (a := r0) (k := 0) cl2 hr0 (by decide) rfl rfl fl_X2_12 dX2_findKeyOfThree_19 rfl ?_
    refine mw_callV (n := 25) (a := (r0 + 1)) (As := []) cl6 (mk2_1 hg hr0) (t_X6_cells hg (r0 + 1) (mk2_1 hg hr0) h) (by decide) ok_X6_cells rfl rfl lk_X2_135 im_X6_cells se_X6_cells dX2_findKeyOfThree_22 rfl rfl (Nat.le_of_ble_eq_true rfl) (fun q1 _ => ?_)
    show mw g l _ _ _ 25 _ [.int q1, .int v2] h _
    refine mw_icmp_ge (n := 28) (t := 76) dX2_findKeyOfThree_25 rfl (by decide) Iff.rfl (fun c2 => ?_) (fun c2 => ?_)
    · refine mw_iinc (n := 79) (q := 1) (v := (v1 + (1 : Int32))) dX2_findKeyOfThree_76 rfl rfl rfl (by decide) rfl ?_
      refine mw_goto (n := 2) dX2_findKeyOfThree_79 (by decide) ?_
      refine mw_sub [1, 0] rfl ?_
      exact hself2 (v1 + (1 : Int32))
    · refine mw_aload_n (n := 29) (q := 0) dX2_findKeyOfThree_28 rfl rfl rfl ?_
      refine mw_iload_n (n := 30) (q := 1) dX2_findKeyOfThree_29 rfl rfl rfl ?_
      refine mw_callN (n := 33) (As := [.int v1]) (t_X8_bitOf hg v1 h) (by decide) ok_X8_bitOf rfl ln_X2_138 sm_X8_bitOf dX2_findKeyOfThree_30 rfl rfl (Nat.le_of_ble_eq_true rfl) (fun q3 _ => ?_)
      show mw g l _ _ _ 33 _ [.int q3, .ref (mad g r0)] h _
      refine mw_iload_n (n := 34) (q := 2) dX2_findKeyOfThree_33 rfl rfl rfl ?_
      refine mw_callN (n := 37) (As := [.int v2]) (t_X8_bitOf hg v2 h) (by decide) ok_X8_bitOf rfl ln_X2_138 sm_X8_bitOf dX2_findKeyOfThree_34 rfl rfl (Nat.le_of_ble_eq_true rfl) (fun q4 _ => ?_)
      show mw g l _ _ _ 37 _ [.int q4, .int q3, .ref (mad g r0)] h _
      refine mw_ior (n := 38) dX2_findKeyOfThree_37 rfl ?_
      refine mw_callV (n := 41) (a := r0) (As := [.int (q3 ||| q4)]) cl2 hr0 (t_X2_tellingApart hg N r0 (q3 ||| q4) hr0 h) (by decide) ok_X2_tellingApart rfl rfl lk_X2_123 im_X2_tellingApart se_X2_tellingApart dX2_findKeyOfThree_38 rfl rfl (Nat.le_of_ble_eq_true rfl) (fun q5 _ => ?_)
      show mw g l _ _ _ 41 _ [.int q5] h _
      refine mw_callN (n := 44) (As := [.int q5]) (t_X8_leastCell hg N q5 h) (by decide) ok_X8_leastCell rfl ln_X2_126 sm_X8_leastCell dX2_findKeyOfThree_41 rfl rfl (Nat.le_of_ble_eq_true rfl) (fun q6 _ => ?_)
      show mw g l _ _ _ 44 _ [.int q6] h _
      refine mw_istore_n (n := 45) dX2_findKeyOfThree_44 rfl rfl (by decide) rfl ?_
      refine mw_iload_n (n := 46) (q := 0) dX2_findKeyOfThree_45 rfl rfl rfl ?_
      refine mw_bipush (n := 48) (v := -9) dX2_findKeyOfThree_46 rfl (by decide) ?_
      refine mw_icmp_eq (n := 51) (t := 70) dX2_findKeyOfThree_48 rfl (by decide) Iff.rfl (fun c7 => ?_) (fun c7 => ?_)
      · refine mw_iinc (n := 73) (q := 3) (v := (v2 + (1 : Int32))) dX2_findKeyOfThree_70 rfl rfl rfl (by decide) rfl ?_
        refine mw_goto (n := 17) dX2_findKeyOfThree_73 (by decide) ?_
        refine mw_sub [2, 3, 0] rfl ?_
        exact hself17 (v2 + (1 : Int32))
      · refine mw_sipush (n := 54) (v := 10000) dX2_findKeyOfThree_51 rfl (by decide) ?_
        refine mw_iload_n (n := 55) (q := 2) dX2_findKeyOfThree_54 rfl rfl rfl ?_
        refine mw_iconst (n := 56) (v := 1) dX2_findKeyOfThree_55 rfl (by decide) ?_
        refine mw_iadd (n := 57) dX2_findKeyOfThree_56 rfl ?_
        refine mw_imul (n := 58) dX2_findKeyOfThree_57 rfl ?_
        refine mw_bipush (n := 60) (v := 100) dX2_findKeyOfThree_58 rfl (by decide) ?_
        refine mw_iload_n (n := 61) (q := 3) dX2_findKeyOfThree_60 rfl rfl rfl ?_
        refine mw_iconst (n := 62) (v := 1) dX2_findKeyOfThree_61 rfl (by decide) ?_
        refine mw_iadd (n := 63) dX2_findKeyOfThree_62 rfl ?_
        refine mw_imul (n := 64) dX2_findKeyOfThree_63 rfl ?_
        refine mw_iadd (n := 65) dX2_findKeyOfThree_64 rfl ?_
        refine mw_iload_n (n := 66) (q := 0) dX2_findKeyOfThree_65 rfl rfl rfl ?_
        refine mw_iadd (n := 67) dX2_findKeyOfThree_66 rfl ?_
        refine mw_iconst (n := 68) (v := 1) dX2_findKeyOfThree_67 rfl (by decide) ?_
        refine mw_iadd (n := 69) dX2_findKeyOfThree_68 rfl ?_
        exact mw_iret dX2_findKeyOfThree_69 rfl rfl
noncomputable def x_X2_findKeyOfThree_2 (N : Nat) (r0 : Nat) (h : mH) (f : Nat) : Int32 → Option (Int32) :=
  Nat.rec (motive := fun _ => Int32 → Option (Int32)) (fun _ => none) (fun _ self2 => fun v1 => 
    (x_X6_cells (r0 + 1) h).bind fun q1 =>
    if q1 ≤ v1 then
      some (-9 : Int32)
    else
      mlet (v1 + (1 : Int32)) fun u3 =>
      x_X2_findKeyOfThree_17 N self2 r0 v1 h N u3) f
theorem x_X2_findKeyOfThree_2_0 (N : Nat) (r0 : Nat) (h : mH) (v1 : Int32) : x_X2_findKeyOfThree_2 N r0 h 0 v1 = none := rfl
theorem x_X2_findKeyOfThree_2_s (N : Nat) (r0 : Nat) (h : mH) (f : Nat) (v1 : Int32) : x_X2_findKeyOfThree_2 N r0 h (f + 1) v1 = (
    (x_X6_cells (r0 + 1) h).bind fun q1 =>
    if q1 ≤ v1 then
      some (-9 : Int32)
    else
      mlet (v1 + (1 : Int32)) fun u3 =>
      x_X2_findKeyOfThree_17 N (x_X2_findKeyOfThree_2 N r0 h f) r0 v1 h N u3) := rfl
set_option maxRecDepth 20000 in
set_option maxHeartbeats 4000000 in
theorem b_X2_findKeyOfThree_2 {g : mG} {l : Launch} (hg : mOK g) (N : Nat) (r0 : Nat) (h : mH) (hr0 : mkn g r0 2) (f : Nat) : ∀ (v1 : Int32), mw g l 2 mX2_findKeyOfThree (fun r : Int32 => (some (Value.int r), h)) 2 [(0, .ref (mad g r0)), (1, .int v1)] [] h (x_X2_findKeyOfThree_2 N r0 h f v1) := by
  induction f with
  | zero => intros; exact mw_none
  | succ f hself2 =>
    intro v1
    refine mw_eq (x_X2_findKeyOfThree_2_s N r0 h f v1) ?_
    generalize x_X2_findKeyOfThree_2 N r0 h f = self2 at hself2 ⊢
    refine mw_iload_n (n := 3) (q := 1) dX2_findKeyOfThree_2 rfl rfl rfl ?_
    refine mw_aload_n (n := 4) (q := 0) dX2_findKeyOfThree_3 rfl rfl rfl ?_
    refine mw_getr (n := 7) (a := r0) (k := 0) cl2 hr0 (by decide) rfl rfl fl_X2_12 dX2_findKeyOfThree_4 rfl ?_
    refine mw_callV (n := 10) (a := (r0 + 1)) (As := []) cl6 (mk2_1 hg hr0) (t_X6_cells hg (r0 + 1) (mk2_1 hg hr0) h) (by decide) ok_X6_cells rfl rfl lk_X2_135 im_X6_cells se_X6_cells dX2_findKeyOfThree_7 rfl rfl (Nat.le_of_ble_eq_true rfl) (fun q1 _ => ?_)
    show mw g l _ _ _ 10 _ [.int q1, .int v1] h _
    refine mw_icmp_ge (n := 13) (t := 82) dX2_findKeyOfThree_10 rfl (by decide) Iff.rfl (fun c2 => ?_) (fun c2 => ?_)
    · refine mw_bipush (n := 84) (v := -9) dX2_findKeyOfThree_82 rfl (by decide) ?_
      exact mw_iret dX2_findKeyOfThree_84 rfl rfl
    · refine mw_iload_n (n := 14) (q := 1) dX2_findKeyOfThree_13 rfl rfl rfl ?_
      refine mw_iconst (n := 15) (v := 1) dX2_findKeyOfThree_14 rfl (by decide) ?_
      refine mw_iadd (n := 16) dX2_findKeyOfThree_15 rfl ?_
      refine mw_letI (fun u3 => ?_)
      refine mw_istore_n (n := 17) dX2_findKeyOfThree_16 rfl rfl (by decide) rfl ?_
      refine mw_sub [1, 2, 0] rfl ?_
      exact b_X2_findKeyOfThree_17 hg N r0 v1 h self2 hself2 hr0 N u3
noncomputable def x_X2_findKeyOfThree (N : Nat) (t : Nat) (h : mH) : Option (Int32) :=
  x_X2_findKeyOfThree_2 N t h N (0 : Int32)
set_option maxRecDepth 20000 in
set_option maxHeartbeats 4000000 in
theorem t_X2_findKeyOfThree {g : mG} {l : Launch} (hg : mOK g) (N : Nat) (t : Nat) (ht : mkn g t 2) (h : mH) : mf g l 2 mX2_findKeyOfThree (fun r : Int32 => (some (Value.int r), h)) [.ref (mad g t)] h (x_X2_findKeyOfThree N t h) := by
  refine mf_of (by decide) (Nat.le_of_ble_eq_true rfl) ?_
  show mw g l 2 mX2_findKeyOfThree (fun r : Int32 => (some (Value.int r), h)) 0 [(0, .ref (mad g t))] [] h _
  unfold x_X2_findKeyOfThree
  refine mw_iconst (n := 1) (v := 0) dX2_findKeyOfThree_0 rfl (by decide) ?_
  refine mw_istore_n (n := 2) dX2_findKeyOfThree_1 rfl rfl (by decide) rfl ?_
  refine mw_sub [1, 0] rfl ?_
  exact b_X2_findKeyOfThree_2 hg N t h ht N (0 : Int32)
noncomputable def x_X2_findKey (N : Nat) (t : Nat) (h : mH) : Option (Int32) :=
  if ¬ (mgi h (t + 1) 6) = (-1 : Int32) then
    if ¬ (mgi h (t + 4) 3) = (1 : Int32) then
      (x_X2_tellingApart N t (0 : Int32) h).bind fun q3 =>
      (x_X8_leastCell N q3).bind fun q4 =>
      if q4 = (-9 : Int32) then
        (x_X2_findKeyOfTwo N t h).bind fun q6 =>
        if q6 = (-9 : Int32) then
          (x_X2_findKeyOfThree N t h).bind fun q8 =>
          some q8
        else
          some q6
      else
        some (q4 + (1 : Int32))
    else
      some (0 : Int32)
  else
    some (-9 : Int32)
set_option maxRecDepth 20000 in
set_option maxHeartbeats 4000000 in
theorem t_X2_findKey {g : mG} {l : Launch} (hg : mOK g) (N : Nat) (t : Nat) (ht : mkn g t 2) (h : mH) : mf g l 3 mX2_findKey (fun r : Int32 => (some (Value.int r), h)) [.ref (mad g t)] h (x_X2_findKey N t h) := by
  refine mf_of (by decide) (Nat.le_of_ble_eq_true rfl) ?_
  show mw g l 3 mX2_findKey (fun r : Int32 => (some (Value.int r), h)) 0 [(0, .ref (mad g t))] [] h _
  unfold x_X2_findKey
  refine mw_aload_n (n := 1) (q := 0) dX2_findKey_0 rfl rfl rfl ?_
  refine mw_getr (n := 4) (a := t) (k := 0) cl2 ht (by decide) rfl rfl fl_X2_12 dX2_findKey_1 rfl ?_
  refine mw_geti (n := 7) (a := (t + 1)) (k := 6) cl6 (mk2_1 hg ht) (by decide) rfl rfl fl_X2_29 dX2_findKey_4 rfl ?_
  refine mw_iconst (n := 8) (v := -1) dX2_findKey_7 rfl (by decide) ?_
  refine mw_icmp_ne (n := 11) (t := 14) dX2_findKey_8 rfl (by decide) Iff.rfl (fun c1 => ?_) (fun c1 => ?_)
  · refine mw_aload_n (n := 15) (q := 0) dX2_findKey_14 rfl rfl rfl ?_
    refine mw_getr (n := 18) (a := t) (k := 1) cl2 ht (by decide) rfl rfl fl_X2_21 dX2_findKey_15 rfl ?_
    refine mw_geti (n := 21) (a := (t + 4)) (k := 3) cl1 (mk2_4 hg ht) (by decide) rfl rfl fl_X2_37 dX2_findKey_18 rfl ?_
    refine mw_iconst (n := 22) (v := 1) dX2_findKey_21 rfl (by decide) ?_
    refine mw_icmp_ne (n := 25) (t := 27) dX2_findKey_22 rfl (by decide) Iff.rfl (fun c2 => ?_) (fun c2 => ?_)
    · refine mw_aload_n (n := 28) (q := 0) dX2_findKey_27 rfl rfl rfl ?_
      refine mw_iconst (n := 29) (v := 0) dX2_findKey_28 rfl (by decide) ?_
      refine mw_callV (n := 32) (a := t) (As := [.int (0 : Int32)]) cl2 ht (t_X2_tellingApart hg N t (0 : Int32) ht h) (by decide) ok_X2_tellingApart rfl rfl lk_X2_123 im_X2_tellingApart se_X2_tellingApart dX2_findKey_29 rfl rfl (Nat.le_of_ble_eq_true rfl) (fun q3 _ => ?_)
      show mw g l _ _ _ 32 _ [.int q3] h _
      refine mw_callN (n := 35) (As := [.int q3]) (t_X8_leastCell hg N q3 h) (by decide) ok_X8_leastCell rfl ln_X2_126 sm_X8_leastCell dX2_findKey_32 rfl rfl (Nat.le_of_ble_eq_true rfl) (fun q4 _ => ?_)
      show mw g l _ _ _ 35 _ [.int q4] h _
      refine mw_istore_n (n := 36) dX2_findKey_35 rfl rfl (by decide) rfl ?_
      refine mw_iload_n (n := 37) (q := 0) dX2_findKey_36 rfl rfl rfl ?_
      refine mw_bipush (n := 39) (v := -9) dX2_findKey_37 rfl (by decide) ?_
      refine mw_icmp_eq (n := 42) (t := 46) dX2_findKey_39 rfl (by decide) Iff.rfl (fun c5 => ?_) (fun c5 => ?_)
      · refine mw_aload_n (n := 47) (q := 1) dX2_findKey_46 rfl rfl rfl ?_
        refine mw_callV (n := 50) (a := t) (As := []) cl2 ht (t_X2_findKeyOfTwo hg N t ht h) (by decide) ok_X2_findKeyOfTwo rfl rfl lk_X2_129 im_X2_findKeyOfTwo se_X2_findKeyOfTwo dX2_findKey_47 rfl rfl (Nat.le_of_ble_eq_true rfl) (fun q6 _ => ?_)
        show mw g l _ _ _ 50 _ [.int q6] h _
        refine mw_istore_n (n := 51) dX2_findKey_50 rfl rfl (by decide) rfl ?_
        refine mw_iload_n (n := 52) (q := 0) dX2_findKey_51 rfl rfl rfl ?_
        refine mw_bipush (n := 54) (v := -9) dX2_findKey_52 rfl (by decide) ?_
        refine mw_icmp_eq (n := 57) (t := 61) dX2_findKey_54 rfl (by decide) Iff.rfl (fun c7 => ?_) (fun c7 => ?_)
        · refine mw_aload_n (n := 62) (q := 2) dX2_findKey_61 rfl rfl rfl ?_
          refine mw_callV (n := 65) (a := t) (As := []) cl2 ht (t_X2_findKeyOfThree hg N t ht h) (by decide) ok_X2_findKeyOfThree rfl rfl lk_X2_132 im_X2_findKeyOfThree se_X2_findKeyOfThree dX2_findKey_62 rfl rfl (Nat.le_of_ble_eq_true rfl) (fun q8 _ => ?_)
          show mw g l _ _ _ 65 _ [.int q8] h _
          exact mw_iret dX2_findKey_65 rfl rfl
        · refine mw_iload_n (n := 58) (q := 0) dX2_findKey_57 rfl rfl rfl ?_
          refine mw_goto (n := 65) dX2_findKey_58 (by decide) ?_
          exact mw_iret dX2_findKey_65 rfl rfl
      · refine mw_iload_n (n := 43) (q := 0) dX2_findKey_42 rfl rfl rfl ?_
        refine mw_iconst (n := 44) (v := 1) dX2_findKey_43 rfl (by decide) ?_
        refine mw_iadd (n := 45) dX2_findKey_44 rfl ?_
        exact mw_iret dX2_findKey_45 rfl rfl
    · refine mw_iconst (n := 26) (v := 0) dX2_findKey_25 rfl (by decide) ?_
      exact mw_iret dX2_findKey_26 rfl rfl
  · refine mw_bipush (n := 13) (v := -9) dX2_findKey_11 rfl (by decide) ?_
    exact mw_iret dX2_findKey_13 rfl rfl
