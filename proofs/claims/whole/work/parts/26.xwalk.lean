noncomputable def x_X7_reach (N : Nat) (p0 : Nat) (p1 : Int32) (p2 : Int32) (h : mH) : Option (mH) :=
  (x_X1_numberOf N (p0 + 4) p1 h).bind fun q1 =>
  if q1 = (-9 : Int32) then
    some h
  else
    mck q1 310 <|
    if ¬ (mgi h 68 (q1).toNatClampNeg) = (-9 : Int32) then
      some h
    else
      if (310 : Int32) ≤ (mgi h 67 2) then
        some h
      else
        mck q1 310 <|
        mlet (msi h 68 (q1).toNatClampNeg p2) fun h5 =>
        mck (mgi h5 67 2) 310 <|
        mlet (msi h5 69 ((mgi h5 67 2)).toNatClampNeg q1) fun h6 =>
        mlet (msi h6 67 2 ((mgi h6 67 2) + (1 : Int32))) fun h7 =>
        some h7
set_option maxRecDepth 20000 in
set_option maxHeartbeats 4000000 in
theorem t_X7_reach {g : mG} {l : Launch} (hg : mOK g) (N : Nat) (p0 : Nat) (p1 : Int32) (p2 : Int32) (hp0 : mkn g p0 2) (h : mH) : mf g l 1 mX7_reach (fun r : mH => ((none : Option Value), r)) [.ref (mad g 67), .ref (mad g p0), .int p1, .int p2] h (x_X7_reach N p0 p1 p2 h) := by
  refine mf_of (by decide) (Nat.le_of_ble_eq_true rfl) ?_
  show mw g l 1 mX7_reach (fun r : mH => ((none : Option Value), r)) 0 [(0, .ref (mad g 67)), (1, .ref (mad g p0)), (2, .int p1), (3, .int p2)] [] h _
  unfold x_X7_reach
  refine mw_aload_n (n := 1) (q := 1) dX7_reach_0 rfl rfl rfl ?_
  refine mw_getr (n := 4) (a := p0) (k := 1) cl2 hp0 (by decide) rfl rfl fl_X7_25 dX7_reach_1 rfl ?_
  refine mw_iload_n (n := 5) (q := 2) dX7_reach_4 rfl rfl rfl ?_
  refine mw_callV (n := 8) (a := (p0 + 4)) (As := [.int p1]) cl1 (mk2_4 hg hp0) (t_X1_numberOf hg N (p0 + 4) p1 (mk2_4 hg hp0) h) (by decide) ok_X1_numberOf rfl rfl lk_X7_59 im_X1_numberOf se_X1_numberOf dX7_reach_5 rfl rfl (Nat.le_of_ble_eq_true rfl) (fun q1 _ => ?_)
  show mw g l _ _ _ 8 _ [.int q1] h _
  refine mw_istore (n := 10) dX7_reach_8 rfl (by decide) rfl ?_
  refine mw_iload (n := 12) (q := 0) dX7_reach_10 rfl rfl ?_
  refine mw_bipush (n := 14) (v := -9) dX7_reach_12 rfl (by decide) ?_
  refine mw_icmp_eq (n := 17) (t := 68) dX7_reach_14 rfl (by decide) Iff.rfl (fun c2 => ?_) (fun c2 => ?_)
  · exact mw_vret dX7_reach_68 rfl rfl
  · refine mw_aload_n (n := 18) (q := 1) dX7_reach_17 rfl rfl rfl ?_
    refine mw_getr (n := 21) (a := 67) (k := 0) cl7 (mkl hg (by decide) (by rfl)) (by decide) rfl rfl fl_X7_9 dX7_reach_18 rfl ?_
    refine mw_iload (n := 23) (q := 0) dX7_reach_21 rfl rfl ?_
    refine mw_iald (n := 24) (a := 68) (N := 310) (mkl hg (by decide) (by rfl)) dX7_reach_23 rfl ?_
    refine mw_bipush (n := 26) (v := -9) dX7_reach_24 rfl (by decide) ?_
    refine mw_icmp_ne (n := 29) (t := 68) dX7_reach_26 rfl (by decide) Iff.rfl (fun c3 => ?_) (fun c3 => ?_)
    · exact mw_vret dX7_reach_68 rfl rfl
    · refine mw_aload_n (n := 30) (q := 1) dX7_reach_29 rfl rfl rfl ?_
      refine mw_geti (n := 33) (a := 67) (k := 2) cl7 (mkl hg (by decide) (by rfl)) (by decide) rfl rfl fl_X7_45 dX7_reach_30 rfl ?_
      refine mw_sipush (n := 36) (v := 310) dX7_reach_33 rfl (by decide) ?_
      refine mw_icmp_ge (n := 39) (t := 68) dX7_reach_36 rfl (by decide) Iff.rfl (fun c4 => ?_) (fun c4 => ?_)
      · exact mw_vret dX7_reach_68 rfl rfl
      · refine mw_aload_n (n := 40) (q := 1) dX7_reach_39 rfl rfl rfl ?_
        refine mw_getr (n := 43) (a := 67) (k := 0) cl7 (mkl hg (by decide) (by rfl)) (by decide) rfl rfl fl_X7_9 dX7_reach_40 rfl ?_
        refine mw_iload (n := 45) (q := 0) dX7_reach_43 rfl rfl ?_
        refine mw_iload_n (n := 46) (q := 4) dX7_reach_45 rfl rfl rfl ?_
        refine mw_iast (n := 47) (a := 68) (N := 310) (mkl hg (by decide) (by rfl)) dX7_reach_46 rfl (mw_leth (fun h5 => ?_))
        refine mw_aload_n (n := 48) (q := 1) dX7_reach_47 rfl rfl rfl ?_
        refine mw_getr (n := 51) (a := 67) (k := 1) cl7 (mkl hg (by decide) (by rfl)) (by decide) rfl rfl fl_X7_15 dX7_reach_48 rfl ?_
        refine mw_aload_n (n := 52) (q := 1) dX7_reach_51 rfl rfl rfl ?_
        refine mw_geti (n := 55) (a := 67) (k := 2) cl7 (mkl hg (by decide) (by rfl)) (by decide) rfl rfl fl_X7_45 dX7_reach_52 rfl ?_
        refine mw_iload (n := 57) (q := 0) dX7_reach_55 rfl rfl ?_
        refine mw_iast (n := 58) (a := 69) (N := 310) (mkl hg (by decide) (by rfl)) dX7_reach_57 rfl (mw_leth (fun h6 => ?_))
        refine mw_aload_n (n := 59) (q := 1) dX7_reach_58 rfl rfl rfl ?_
        refine mw_dup (n := 60) dX7_reach_59 rfl rfl ?_
        refine mw_geti (n := 63) (a := 67) (k := 2) cl7 (mkl hg (by decide) (by rfl)) (by decide) rfl rfl fl_X7_45 dX7_reach_60 rfl ?_
        refine mw_iconst (n := 64) (v := 1) dX7_reach_63 rfl (by decide) ?_
        refine mw_iadd (n := 65) dX7_reach_64 rfl ?_
        refine mw_puti (n := 68) (a := 67) (k := 2) cl7 ct7 (mkl hg (by decide) (by rfl)) (by decide) rfl rfl rfl rfl fl_X7_45 dX7_reach_65 rfl (mw_leth (fun h7 => ?_))
        exact mw_vret dX7_reach_68 rfl rfl
noncomputable def x_X7_reachByRows_130 (N : Nat) (self44 : Int32 → mH → Option (mH)) (r1 : Nat) (v2 : Int32) (v3 : Int32) (v4 : Int32) (r5 : Nat) (v6 : Int32) (v7 : Int32) (v8 : Int32) (v9 : Int32) (h : mH) : Option (mH) :=
  self44 (v9 + (1 : Int32)) h
set_option maxRecDepth 20000 in
set_option maxHeartbeats 4000000 in
theorem b_X7_reachByRows_130 {g : mG} {l : Launch} (hg : mOK g) (N : Nat) (r1 : Nat) (v2 : Int32) (v3 : Int32) (v4 : Int32) (r5 : Nat) (v6 : Int32) (v7 : Int32) (v8 : Int32) (v9 : Int32) (self44 : Int32 → mH → Option (mH)) (hself44 : ∀ (v9 : Int32) (h : mH), mw g l 3 mX7_reachByRows (fun r : mH => ((none : Option Value), r)) 44 [(0, .ref (mad g 67)), (1, .ref (mad g r1)), (2, .int v2), (3, .int v3), (4, .int v4), (5, .ref (mad g r5)), (6, .int v6), (7, .int v7), (8, .int v8), (9, .int v9)] [] h (self44 v9 h)) (hr1 : mkn g r1 2) (hr5 : mkn g r5 6) (h : mH) : mw g l 3 mX7_reachByRows (fun r : mH => ((none : Option Value), r)) 130 [(0, .ref (mad g 67)), (1, .ref (mad g r1)), (2, .int v2), (3, .int v3), (4, .int v4), (5, .ref (mad g r5)), (6, .int v6), (7, .int v7), (8, .int v8), (9, .int v9)] [] h (x_X7_reachByRows_130 N self44 r1 v2 v3 v4 r5 v6 v7 v8 v9 h) := by
  unfold x_X7_reachByRows_130
  refine mw_iinc (n := 133) (q := 9) (v := (v9 + (1 : Int32))) dX7_reachByRows_130 rfl rfl rfl (by decide) rfl ?_
  refine mw_goto (n := 44) dX7_reachByRows_133 (by decide) ?_
  refine mw_sub [1, 2, 3, 4, 5, 6, 7, 8, 9, 0] rfl ?_
  exact hself44 (v9 + (1 : Int32)) h
noncomputable def x_X7_reachByRows_124 (N : Nat) (self44 : Int32 → mH → Option (mH)) (self76 : Int32 → mH → Option (mH)) (r1 : Nat) (v2 : Int32) (v3 : Int32) (v4 : Int32) (r5 : Nat) (v6 : Int32) (v7 : Int32) (v8 : Int32) (v9 : Int32) (v10 : Int32) (h : mH) : Option (mH) :=
  self76 (v10 + (1 : Int32)) h
set_option maxRecDepth 20000 in
set_option maxHeartbeats 4000000 in
theorem b_X7_reachByRows_124 {g : mG} {l : Launch} (hg : mOK g) (N : Nat) (r1 : Nat) (v2 : Int32) (v3 : Int32) (v4 : Int32) (r5 : Nat) (v6 : Int32) (v7 : Int32) (v8 : Int32) (v9 : Int32) (v10 : Int32) (self44 : Int32 → mH → Option (mH)) (hself44 : ∀ (v9 : Int32) (h : mH), mw g l 3 mX7_reachByRows (fun r : mH => ((none : Option Value), r)) 44 [(0, .ref (mad g 67)), (1, .ref (mad g r1)), (2, .int v2), (3, .int v3), (4, .int v4), (5, .ref (mad g r5)), (6, .int v6), (7, .int v7), (8, .int v8), (9, .int v9)] [] h (self44 v9 h)) (self76 : Int32 → mH → Option (mH)) (hself76 : ∀ (v10 : Int32) (h : mH), mw g l 3 mX7_reachByRows (fun r : mH => ((none : Option Value), r)) 76 [(0, .ref (mad g 67)), (1, .ref (mad g r1)), (2, .int v2), (3, .int v3), (4, .int v4), (5, .ref (mad g r5)), (6, .int v6), (7, .int v7), (8, .int v8), (9, .int v9), (10, .int v10)] [] h (self76 v10 h)) (hr1 : mkn g r1 2) (hr5 : mkn g r5 6) (h : mH) : mw g l 3 mX7_reachByRows (fun r : mH => ((none : Option Value), r)) 124 [(0, .ref (mad g 67)), (1, .ref (mad g r1)), (2, .int v2), (3, .int v3), (4, .int v4), (5, .ref (mad g r5)), (6, .int v6), (7, .int v7), (8, .int v8), (9, .int v9), (10, .int v10)] [] h (x_X7_reachByRows_124 N self44 self76 r1 v2 v3 v4 r5 v6 v7 v8 v9 v10 h) := by
  unfold x_X7_reachByRows_124
  refine mw_iinc (n := 127) (q := 10) (v := (v10 + (1 : Int32))) dX7_reachByRows_124 rfl rfl rfl (by decide) rfl ?_
  refine mw_goto (n := 76) dX7_reachByRows_127 (by decide) ?_
  refine mw_sub [1, 2, 3, 4, 5, 6, 7, 8, 9, 10, 0] rfl ?_
  exact hself76 (v10 + (1 : Int32)) h
noncomputable def x_X7_reachByRows_76 (N : Nat) (self44 : Int32 → mH → Option (mH)) (r1 : Nat) (v2 : Int32) (v3 : Int32) (v4 : Int32) (r5 : Nat) (v6 : Int32) (v7 : Int32) (v8 : Int32) (v9 : Int32) (f : Nat) : Int32 → mH → Option (mH) :=
  Nat.rec (motive := fun _ => Int32 → mH → Option (mH)) (fun _ _ => none) (fun _ self76 => fun v10 h => 
    if (mgi h r5 1) ≤ v10 then
      x_X7_reachByRows_130 N self44 r1 v2 v3 v4 r5 v6 v7 v8 v9 h
    else
      (x_X8_columnBit v10).bind fun q2 =>
      if (v8 &&& q2) = 0 then
        x_X7_reachByRows_124 N self44 self76 r1 v2 v3 v4 r5 v6 v7 v8 v9 v10 h
      else
        (x_X6_switched r5 v6 v3 v4 v9 v10 h).bind fun q4 =>
        mck v2 310 <|
        (x_X7_reach N r1 q4 ((mgi h 68 (v2).toNatClampNeg) + (1 : Int32)) h).bind fun q5 =>
        x_X7_reachByRows_124 N self44 self76 r1 v2 v3 v4 r5 v6 v7 v8 v9 v10 q5) f
theorem x_X7_reachByRows_76_0 (N : Nat) (self44 : Int32 → mH → Option (mH)) (r1 : Nat) (v2 : Int32) (v3 : Int32) (v4 : Int32) (r5 : Nat) (v6 : Int32) (v7 : Int32) (v8 : Int32) (v9 : Int32) (v10 : Int32) (h : mH) : x_X7_reachByRows_76 N self44 r1 v2 v3 v4 r5 v6 v7 v8 v9 0 v10 h = none := rfl
theorem x_X7_reachByRows_76_s (N : Nat) (self44 : Int32 → mH → Option (mH)) (r1 : Nat) (v2 : Int32) (v3 : Int32) (v4 : Int32) (r5 : Nat) (v6 : Int32) (v7 : Int32) (v8 : Int32) (v9 : Int32) (f : Nat) (v10 : Int32) (h : mH) : x_X7_reachByRows_76 N self44 r1 v2 v3 v4 r5 v6 v7 v8 v9 (f + 1) v10 h = (
    if (mgi h r5 1) ≤ v10 then
      x_X7_reachByRows_130 N self44 r1 v2 v3 v4 r5 v6 v7 v8 v9 h
    else
      (x_X8_columnBit v10).bind fun q2 =>
      if (v8 &&& q2) = 0 then
        x_X7_reachByRows_124 N self44 (x_X7_reachByRows_76 N self44 r1 v2 v3 v4 r5 v6 v7 v8 v9 f) r1 v2 v3 v4 r5 v6 v7 v8 v9 v10 h
      else
        (x_X6_switched r5 v6 v3 v4 v9 v10 h).bind fun q4 =>
        mck v2 310 <|
        (x_X7_reach N r1 q4 ((mgi h 68 (v2).toNatClampNeg) + (1 : Int32)) h).bind fun q5 =>
        x_X7_reachByRows_124 N self44 (x_X7_reachByRows_76 N self44 r1 v2 v3 v4 r5 v6 v7 v8 v9 f) r1 v2 v3 v4 r5 v6 v7 v8 v9 v10 q5) := rfl
set_option maxRecDepth 20000 in
set_option maxHeartbeats 4000000 in
theorem b_X7_reachByRows_76 {g : mG} {l : Launch} (hg : mOK g) (N : Nat) (r1 : Nat) (v2 : Int32) (v3 : Int32) (v4 : Int32) (r5 : Nat) (v6 : Int32) (v7 : Int32) (v8 : Int32) (v9 : Int32) (self44 : Int32 → mH → Option (mH)) (hself44 : ∀ (v9 : Int32) (h : mH), mw g l 3 mX7_reachByRows (fun r : mH => ((none : Option Value), r)) 44 [(0, .ref (mad g 67)), (1, .ref (mad g r1)), (2, .int v2), (3, .int v3), (4, .int v4), (5, .ref (mad g r5)), (6, .int v6), (7, .int v7), (8, .int v8), (9, .int v9)] [] h (self44 v9 h)) (hr1 : mkn g r1 2) (hr5 : mkn g r5 6) (f : Nat) : ∀ (v10 : Int32) (h : mH), mw g l 3 mX7_reachByRows (fun r : mH => ((none : Option Value), r)) 76 [(0, .ref (mad g 67)), (1, .ref (mad g r1)), (2, .int v2), (3, .int v3), (4, .int v4), (5, .ref (mad g r5)), (6, .int v6), (7, .int v7), (8, .int v8), (9, .int v9), (10, .int v10)] [] h (x_X7_reachByRows_76 N self44 r1 v2 v3 v4 r5 v6 v7 v8 v9 f v10 h) := by
  induction f with
  | zero => intros; exact mw_none
  | succ f hself76 =>
    intro v10 h
    refine mw_eq (x_X7_reachByRows_76_s N self44 r1 v2 v3 v4 r5 v6 v7 v8 v9 f v10 h) ?_
    generalize x_X7_reachByRows_76 N self44 r1 v2 v3 v4 r5 v6 v7 v8 v9 f = self76 at hself76 ⊢
    refine mw_iload (n := 78) (q := 10) dX7_reachByRows_76 rfl rfl ?_
    refine mw_aload (n := 80) (q := 5) dX7_reachByRows_78 rfl rfl ?_
    refine mw_geti (n := 83) (a := r5) (k := 1) cl6 hr5 (by decide) rfl rfl fl_X7_77 dX7_reachByRows_80 rfl ?_
    refine mw_icmp_ge (n := 86) (t := 130) dX7_reachByRows_83 rfl (by decide) Iff.rfl (fun c1 => ?_) (fun c1 => ?_)
    · refine mw_sub [0, 1, 2, 3, 4, 5, 6, 7, 8, 9] rfl ?_
      exact b_X7_reachByRows_130 hg N r1 v2 v3 v4 r5 v6 v7 v8 v9 self44 hself44 hr1 hr5 h
    · refine mw_iload (n := 88) (q := 8) dX7_reachByRows_86 rfl rfl ?_
      refine mw_iload (n := 90) (q := 10) dX7_reachByRows_88 rfl rfl ?_
      refine mw_callN (n := 93) (As := [.int v10]) (t_X8_columnBit hg v10 h) (by decide) ok_X8_columnBit rfl ln_X7_80 sm_X8_columnBit dX7_reachByRows_90 rfl rfl (Nat.le_of_ble_eq_true rfl) (fun q2 _ => ?_)
      show mw g l _ _ _ 93 _ [.int q2, .int v8] h _
      refine mw_iand (n := 94) dX7_reachByRows_93 rfl ?_
      refine mw_if_eq (n := 97) (t := 124) dX7_reachByRows_94 rfl (by decide) Iff.rfl (fun c3 => ?_) (fun c3 => ?_)
      · exact b_X7_reachByRows_124 hg N r1 v2 v3 v4 r5 v6 v7 v8 v9 v10 self44 hself44 self76 hself76 hr1 hr5 h
      · refine mw_aload_n (n := 98) (q := 0) dX7_reachByRows_97 rfl rfl rfl ?_
        refine mw_aload_n (n := 99) (q := 1) dX7_reachByRows_98 rfl rfl rfl ?_
        refine mw_aload (n := 101) (q := 5) dX7_reachByRows_99 rfl rfl ?_
        refine mw_iload (n := 103) (q := 6) dX7_reachByRows_101 rfl rfl ?_
        refine mw_iload_n (n := 104) (q := 3) dX7_reachByRows_103 rfl rfl rfl ?_
        refine mw_iload (n := 106) (q := 4) dX7_reachByRows_104 rfl rfl ?_
        refine mw_iload (n := 108) (q := 9) dX7_reachByRows_106 rfl rfl ?_
        refine mw_iload (n := 110) (q := 10) dX7_reachByRows_108 rfl rfl ?_
        refine mw_callV (n := 113) (a := r5) (As := [.int v6, .int v3, .int v4, .int v9, .int v10]) cl6 hr5 (t_X6_switched hg r5 v6 v3 v4 v9 v10 hr5 h) (by decide) ok_X6_switched rfl rfl lk_X7_83 im_X6_switched se_X6_switched dX7_reachByRows_110 rfl rfl (Nat.le_of_ble_eq_true rfl) (fun q4 _ => ?_)
        show mw g l _ _ _ 113 _ [.int q4, .ref (mad g r1), .ref (mad g 67)] h _
        refine mw_aload_n (n := 114) (q := 0) dX7_reachByRows_113 rfl rfl rfl ?_
        refine mw_getr (n := 117) (a := 67) (k := 0) cl7 (mkl hg (by decide) (by rfl)) (by decide) rfl rfl fl_X7_9 dX7_reachByRows_114 rfl ?_
        refine mw_iload_n (n := 118) (q := 2) dX7_reachByRows_117 rfl rfl rfl ?_
        refine mw_iald (n := 119) (a := 68) (N := 310) (mkl hg (by decide) (by rfl)) dX7_reachByRows_118 rfl ?_
        refine mw_iconst (n := 120) (v := 1) dX7_reachByRows_119 rfl (by decide) ?_
        refine mw_iadd (n := 121) dX7_reachByRows_120 rfl ?_
        refine mw_callV (n := 124) (a := 67) (As := [.ref (mad g r1), .int q4, .int ((mgi h 68 (v2).toNatClampNeg) + (1 : Int32))]) cl7 (mkl hg (by decide) (by rfl)) (t_X7_reach hg N r1 q4 ((mgi h 68 (v2).toNatClampNeg) + (1 : Int32)) hr1 h) (by decide) ok_X7_reach rfl rfl lk_X7_48 im_X7_reach se_X7_reach dX7_reachByRows_121 rfl rfl (Nat.le_of_ble_eq_true rfl) (fun q5 _ => ?_)
        show mw g l _ _ _ 124 _ [] q5 _
        exact b_X7_reachByRows_124 hg N r1 v2 v3 v4 r5 v6 v7 v8 v9 v10 self44 hself44 self76 hself76 hr1 hr5 q5
noncomputable def x_X7_reachByRows_44 (N : Nat) (r1 : Nat) (v2 : Int32) (v3 : Int32) (v4 : Int32) (r5 : Nat) (v6 : Int32) (v7 : Int32) (v8 : Int32) (f : Nat) : Int32 → mH → Option (mH) :=
  Nat.rec (motive := fun _ => Int32 → mH → Option (mH)) (fun _ _ => none) (fun _ self44 => fun v9 h => 
    if (mgi h r5 1) ≤ v9 then
      some h
    else
      if v8 = 0 then
        some h
      else
        (x_X8_columnBit v9).bind fun q3 =>
        if ¬ (v7 &&& q3) = 0 then
          x_X7_reachByRows_76 N self44 r1 v2 v3 v4 r5 v6 v7 v8 v9 N (0 : Int32) h
        else
          x_X7_reachByRows_130 N self44 r1 v2 v3 v4 r5 v6 v7 v8 v9 h) f
theorem x_X7_reachByRows_44_0 (N : Nat) (r1 : Nat) (v2 : Int32) (v3 : Int32) (v4 : Int32) (r5 : Nat) (v6 : Int32) (v7 : Int32) (v8 : Int32) (v9 : Int32) (h : mH) : x_X7_reachByRows_44 N r1 v2 v3 v4 r5 v6 v7 v8 0 v9 h = none := rfl
theorem x_X7_reachByRows_44_s (N : Nat) (r1 : Nat) (v2 : Int32) (v3 : Int32) (v4 : Int32) (r5 : Nat) (v6 : Int32) (v7 : Int32) (v8 : Int32) (f : Nat) (v9 : Int32) (h : mH) : x_X7_reachByRows_44 N r1 v2 v3 v4 r5 v6 v7 v8 (f + 1) v9 h = (
    if (mgi h r5 1) ≤ v9 then
      some h
    else
      if v8 = 0 then
        some h
      else
        (x_X8_columnBit v9).bind fun q3 =>
        if ¬ (v7 &&& q3) = 0 then
          x_X7_reachByRows_76 N (x_X7_reachByRows_44 N r1 v2 v3 v4 r5 v6 v7 v8 f) r1 v2 v3 v4 r5 v6 v7 v8 v9 N (0 : Int32) h
        else
          x_X7_reachByRows_130 N (x_X7_reachByRows_44 N r1 v2 v3 v4 r5 v6 v7 v8 f) r1 v2 v3 v4 r5 v6 v7 v8 v9 h) := rfl
set_option maxRecDepth 20000 in
set_option maxHeartbeats 4000000 in
theorem b_X7_reachByRows_44 {g : mG} {l : Launch} (hg : mOK g) (N : Nat) (r1 : Nat) (v2 : Int32) (v3 : Int32) (v4 : Int32) (r5 : Nat) (v6 : Int32) (v7 : Int32) (v8 : Int32) (hr1 : mkn g r1 2) (hr5 : mkn g r5 6) (f : Nat) : ∀ (v9 : Int32) (h : mH), mw g l 3 mX7_reachByRows (fun r : mH => ((none : Option Value), r)) 44 [(0, .ref (mad g 67)), (1, .ref (mad g r1)), (2, .int v2), (3, .int v3), (4, .int v4), (5, .ref (mad g r5)), (6, .int v6), (7, .int v7), (8, .int v8), (9, .int v9)] [] h (x_X7_reachByRows_44 N r1 v2 v3 v4 r5 v6 v7 v8 f v9 h) := by
  induction f with
  | zero => intros; exact mw_none
  | succ f hself44 =>
    intro v9 h
    refine mw_eq (x_X7_reachByRows_44_s N r1 v2 v3 v4 r5 v6 v7 v8 f v9 h) ?_
    generalize x_X7_reachByRows_44 N r1 v2 v3 v4 r5 v6 v7 v8 f = self44 at hself44 ⊢
    refine mw_iload (n := 46) (q := 9) dX7_reachByRows_44 rfl rfl ?_
    refine mw_aload (n := 48) (q := 5) dX7_reachByRows_46 rfl rfl ?_
    refine mw_geti (n := 51) (a := r5) (k := 1) cl6 hr5 (by decide) rfl rfl fl_X7_77 dX7_reachByRows_48 rfl ?_
    refine mw_icmp_ge (n := 54) (t := 136) dX7_reachByRows_51 rfl (by decide) Iff.rfl (fun c1 => ?_) (fun c1 => ?_)
    · exact mw_vret dX7_reachByRows_136 rfl rfl
    · refine mw_iload (n := 56) (q := 8) dX7_reachByRows_54 rfl rfl ?_
      refine mw_if_eq (n := 59) (t := 136) dX7_reachByRows_56 rfl (by decide) Iff.rfl (fun c2 => ?_) (fun c2 => ?_)
      · exact mw_vret dX7_reachByRows_136 rfl rfl
      · refine mw_iload (n := 61) (q := 7) dX7_reachByRows_59 rfl rfl ?_
        refine mw_iload (n := 63) (q := 9) dX7_reachByRows_61 rfl rfl ?_
        refine mw_callN (n := 66) (As := [.int v9]) (t_X8_columnBit hg v9 h) (by decide) ok_X8_columnBit rfl ln_X7_80 sm_X8_columnBit dX7_reachByRows_63 rfl rfl (Nat.le_of_ble_eq_true rfl) (fun q3 _ => ?_)
        show mw g l _ _ _ 66 _ [.int q3, .int v7] h _
        refine mw_iand (n := 67) dX7_reachByRows_66 rfl ?_
        refine mw_if_ne (n := 70) (t := 73) dX7_reachByRows_67 rfl (by decide) Iff.rfl (fun c4 => ?_) (fun c4 => ?_)
        · refine mw_iconst (n := 74) (v := 0) dX7_reachByRows_73 rfl (by decide) ?_
          refine mw_istore (n := 76) dX7_reachByRows_74 rfl (by decide) rfl ?_
          refine mw_sub [1, 2, 3, 4, 5, 6, 7, 8, 9, 10, 0] rfl ?_
          exact b_X7_reachByRows_76 hg N r1 v2 v3 v4 r5 v6 v7 v8 v9 self44 hself44 hr1 hr5 N (0 : Int32) h
        · refine mw_goto (n := 130) dX7_reachByRows_70 (by decide) ?_
          exact b_X7_reachByRows_130 hg N r1 v2 v3 v4 r5 v6 v7 v8 v9 self44 hself44 hr1 hr5 h
noncomputable def x_X7_reachByRows (N : Nat) (p0 : Nat) (p1 : Int32) (p2 : Int32) (p3 : Int32) (h : mH) : Option (mH) :=
  mck p1 310 <|
  mlet (mgi h ((p0 + 4) + 2) (p1).toNatClampNeg) fun u1 =>
  (x_X6_giving (p0 + 1) u1 p2 p3 h).bind fun q2 =>
  (x_X6_giving (p0 + 1) u1 p3 p2 h).bind fun q3 =>
  x_X7_reachByRows_44 N p0 p1 p2 p3 (p0 + 1) u1 q2 q3 N (0 : Int32) h
set_option maxRecDepth 20000 in
set_option maxHeartbeats 4000000 in
theorem t_X7_reachByRows {g : mG} {l : Launch} (hg : mOK g) (N : Nat) (p0 : Nat) (p1 : Int32) (p2 : Int32) (p3 : Int32) (hp0 : mkn g p0 2) (h : mH) : mf g l 3 mX7_reachByRows (fun r : mH => ((none : Option Value), r)) [.ref (mad g 67), .ref (mad g p0), .int p1, .int p2, .int p3] h (x_X7_reachByRows N p0 p1 p2 p3 h) := by
  refine mf_of (by decide) (Nat.le_of_ble_eq_true rfl) ?_
  show mw g l 3 mX7_reachByRows (fun r : mH => ((none : Option Value), r)) 0 [(0, .ref (mad g 67)), (1, .ref (mad g p0)), (2, .int p1), (3, .int p2), (4, .int p3)] [] h _
  unfold x_X7_reachByRows
  refine mw_aload_n (n := 1) (q := 1) dX7_reachByRows_0 rfl rfl rfl ?_
  refine mw_getr (n := 4) (a := p0) (k := 0) cl2 hp0 (by decide) rfl rfl fl_X7_36 dX7_reachByRows_1 rfl ?_
  refine mw_astore (n := 6) dX7_reachByRows_4 rfl (by decide) rfl ?_
  refine mw_aload_n (n := 7) (q := 2) dX7_reachByRows_6 rfl rfl rfl ?_
  refine mw_getr (n := 10) (a := p0) (k := 1) cl2 hp0 (by decide) rfl rfl fl_X7_25 dX7_reachByRows_7 rfl ?_
  refine mw_getr (n := 13) (a := (p0 + 4)) (k := 2) cl1 (mk2_4 hg hp0) (by decide) rfl rfl fl_X7_70 dX7_reachByRows_10 rfl ?_
  refine mw_iload_n (n := 14) (q := 3) dX7_reachByRows_13 rfl rfl rfl ?_
  refine mw_iald (n := 15) (a := ((p0 + 4) + 2)) (N := 310) (mk1_2 hg (mk2_4 hg hp0)) dX7_reachByRows_14 rfl ?_
  refine mw_letI (fun u1 => ?_)
  refine mw_istore (n := 17) dX7_reachByRows_15 rfl (by decide) rfl ?_
  refine mw_aload (n := 19) (q := 1) dX7_reachByRows_17 rfl rfl ?_
  refine mw_iload (n := 21) (q := 0) dX7_reachByRows_19 rfl rfl ?_
  refine mw_iload_n (n := 22) (q := 5) dX7_reachByRows_21 rfl rfl rfl ?_
  refine mw_iload (n := 24) (q := 6) dX7_reachByRows_22 rfl rfl ?_
  refine mw_callV (n := 27) (a := (p0 + 1)) (As := [.int u1, .int p2, .int p3]) cl6 (mk2_1 hg hp0) (t_X6_giving hg (p0 + 1) u1 p2 p3 (mk2_1 hg hp0) h) (by decide) ok_X6_giving rfl rfl lk_X7_73 im_X6_giving se_X6_giving dX7_reachByRows_24 rfl rfl (Nat.le_of_ble_eq_true rfl) (fun q2 _ => ?_)
  show mw g l _ _ _ 27 _ [.int q2] h _
  refine mw_istore (n := 29) dX7_reachByRows_27 rfl (by decide) rfl ?_
  refine mw_aload (n := 31) (q := 2) dX7_reachByRows_29 rfl rfl ?_
  refine mw_iload (n := 33) (q := 1) dX7_reachByRows_31 rfl rfl ?_
  refine mw_iload (n := 35) (q := 7) dX7_reachByRows_33 rfl rfl ?_
  refine mw_iload_n (n := 36) (q := 6) dX7_reachByRows_35 rfl rfl rfl ?_
  refine mw_callV (n := 39) (a := (p0 + 1)) (As := [.int u1, .int p3, .int p2]) cl6 (mk2_1 hg hp0) (t_X6_giving hg (p0 + 1) u1 p3 p2 (mk2_1 hg hp0) h) (by decide) ok_X6_giving rfl rfl lk_X7_73 im_X6_giving se_X6_giving dX7_reachByRows_36 rfl rfl (Nat.le_of_ble_eq_true rfl) (fun q3 _ => ?_)
  show mw g l _ _ _ 39 _ [.int q3] h _
  refine mw_istore (n := 41) dX7_reachByRows_39 rfl (by decide) rfl ?_
  refine mw_iconst (n := 42) (v := 0) dX7_reachByRows_41 rfl (by decide) ?_
  refine mw_istore (n := 44) dX7_reachByRows_42 rfl (by decide) rfl ?_
  refine mw_sub [5, 6, 7, 8, 9, 4, 3, 2, 1, 0] rfl ?_
  exact b_X7_reachByRows_44 hg N p0 p1 p2 p3 (p0 + 1) u1 q2 q3 hp0 (mk2_1 hg hp0) N (0 : Int32) h
noncomputable def x_X7_reachAround_18 (N : Nat) (self2 : Int32 → mH → Option (mH)) (r1 : Nat) (v2 : Int32) (v3 : Int32) (f : Nat) : Int32 → mH → Option (mH) :=
  Nat.rec (motive := fun _ => Int32 → mH → Option (mH)) (fun _ _ => none) (fun _ self18 => fun v4 h => 
    if (mgi h (r1 + 1) 0) ≤ v4 then
      self2 (v3 + (1 : Int32)) h
    else
      (x_X7_reachByRows N r1 v2 v3 v4 h).bind fun q2 =>
      self18 (v4 + (1 : Int32)) q2) f
theorem x_X7_reachAround_18_0 (N : Nat) (self2 : Int32 → mH → Option (mH)) (r1 : Nat) (v2 : Int32) (v3 : Int32) (v4 : Int32) (h : mH) : x_X7_reachAround_18 N self2 r1 v2 v3 0 v4 h = none := rfl
theorem x_X7_reachAround_18_s (N : Nat) (self2 : Int32 → mH → Option (mH)) (r1 : Nat) (v2 : Int32) (v3 : Int32) (f : Nat) (v4 : Int32) (h : mH) : x_X7_reachAround_18 N self2 r1 v2 v3 (f + 1) v4 h = (
    if (mgi h (r1 + 1) 0) ≤ v4 then
      self2 (v3 + (1 : Int32)) h
    else
      (x_X7_reachByRows N r1 v2 v3 v4 h).bind fun q2 =>
      (x_X7_reachAround_18 N self2 r1 v2 v3 f) (v4 + (1 : Int32)) q2) := rfl
set_option maxRecDepth 20000 in
set_option maxHeartbeats 4000000 in
theorem b_X7_reachAround_18 {g : mG} {l : Launch} (hg : mOK g) (N : Nat) (r1 : Nat) (v2 : Int32) (v3 : Int32) (self2 : Int32 → mH → Option (mH)) (hself2 : ∀ (v3 : Int32) (h : mH), mw g l 4 mX7_reachAround (fun r : mH => ((none : Option Value), r)) 2 [(0, .ref (mad g 67)), (1, .ref (mad g r1)), (2, .int v2), (3, .int v3)] [] h (self2 v3 h)) (hr1 : mkn g r1 2) (f : Nat) : ∀ (v4 : Int32) (h : mH), mw g l 4 mX7_reachAround (fun r : mH => ((none : Option Value), r)) 18 [(0, .ref (mad g 67)), (1, .ref (mad g r1)), (2, .int v2), (3, .int v3), (4, .int v4)] [] h (x_X7_reachAround_18 N self2 r1 v2 v3 f v4 h) := by
  induction f with
  | zero => intros; exact mw_none
  | succ f hself18 =>
    intro v4 h
    refine mw_eq (x_X7_reachAround_18_s N self2 r1 v2 v3 f v4 h) ?_
    generalize x_X7_reachAround_18 N self2 r1 v2 v3 f = self18 at hself18 ⊢
    refine mw_iload (n := 20) (q := 4) dX7_reachAround_18 rfl rfl ?_
    refine mw_aload_n (n := 21) (q := 1) dX7_reachAround_20 rfl rfl rfl ?_
    refine mw_getr (n := 24) (a := r1) (k := 0) cl2 hr1 (by decide) rfl rfl fl_X7_36 dX7_reachAround_21 rfl ?_
    refine mw_geti (n := 27) (a := (r1 + 1)) (k := 0) cl6 (mk2_1 hg hr1) (by decide) rfl rfl fl_X7_63 dX7_reachAround_24 rfl ?_
    refine mw_icmp_ge (n := 30) (t := 45) dX7_reachAround_27 rfl (by decide) Iff.rfl (fun c1 => ?_) (fun c1 => ?_)
    · refine mw_iinc (n := 48) (q := 3) (v := (v3 + (1 : Int32))) dX7_reachAround_45 rfl rfl rfl (by decide) rfl ?_
      refine mw_goto (n := 2) dX7_reachAround_48 (by decide) ?_
      refine mw_sub [1, 2, 3, 0] rfl ?_
      exact hself2 (v3 + (1 : Int32)) h
    · refine mw_aload_n (n := 31) (q := 0) dX7_reachAround_30 rfl rfl rfl ?_
      refine mw_aload_n (n := 32) (q := 1) dX7_reachAround_31 rfl rfl rfl ?_
      refine mw_iload_n (n := 33) (q := 2) dX7_reachAround_32 rfl rfl rfl ?_
      refine mw_iload_n (n := 34) (q := 3) dX7_reachAround_33 rfl rfl rfl ?_
      refine mw_iload (n := 36) (q := 4) dX7_reachAround_34 rfl rfl ?_
      refine mw_callV (n := 39) (a := 67) (As := [.ref (mad g r1), .int v2, .int v3, .int v4]) cl7 (mkl hg (by decide) (by rfl)) (t_X7_reachByRows hg N r1 v2 v3 v4 hr1 h) (by decide) ok_X7_reachByRows rfl rfl lk_X7_66 im_X7_reachByRows se_X7_reachByRows dX7_reachAround_36 rfl rfl (Nat.le_of_ble_eq_true rfl) (fun q2 _ => ?_)
      show mw g l _ _ _ 39 _ [] q2 _
      refine mw_iinc (n := 42) (q := 4) (v := (v4 + (1 : Int32))) dX7_reachAround_39 rfl rfl rfl (by decide) rfl ?_
      refine mw_goto (n := 18) dX7_reachAround_42 (by decide) ?_
      refine mw_sub [1, 2, 3, 4, 0] rfl ?_
      exact hself18 (v4 + (1 : Int32)) q2
noncomputable def x_X7_reachAround_2 (N : Nat) (r1 : Nat) (v2 : Int32) (f : Nat) : Int32 → mH → Option (mH) :=
  Nat.rec (motive := fun _ => Int32 → mH → Option (mH)) (fun _ _ => none) (fun _ self2 => fun v3 h => 
    if (mgi h (r1 + 1) 0) ≤ v3 then
      some h
    else
      mlet (v3 + (1 : Int32)) fun u2 =>
      x_X7_reachAround_18 N self2 r1 v2 v3 N u2 h) f
theorem x_X7_reachAround_2_0 (N : Nat) (r1 : Nat) (v2 : Int32) (v3 : Int32) (h : mH) : x_X7_reachAround_2 N r1 v2 0 v3 h = none := rfl
theorem x_X7_reachAround_2_s (N : Nat) (r1 : Nat) (v2 : Int32) (f : Nat) (v3 : Int32) (h : mH) : x_X7_reachAround_2 N r1 v2 (f + 1) v3 h = (
    if (mgi h (r1 + 1) 0) ≤ v3 then
      some h
    else
      mlet (v3 + (1 : Int32)) fun u2 =>
      x_X7_reachAround_18 N (x_X7_reachAround_2 N r1 v2 f) r1 v2 v3 N u2 h) := rfl
set_option maxRecDepth 20000 in
set_option maxHeartbeats 4000000 in
theorem b_X7_reachAround_2 {g : mG} {l : Launch} (hg : mOK g) (N : Nat) (r1 : Nat) (v2 : Int32) (hr1 : mkn g r1 2) (f : Nat) : ∀ (v3 : Int32) (h : mH), mw g l 4 mX7_reachAround (fun r : mH => ((none : Option Value), r)) 2 [(0, .ref (mad g 67)), (1, .ref (mad g r1)), (2, .int v2), (3, .int v3)] [] h (x_X7_reachAround_2 N r1 v2 f v3 h) := by
  induction f with
  | zero => intros; exact mw_none
  | succ f hself2 =>
    intro v3 h
    refine mw_eq (x_X7_reachAround_2_s N r1 v2 f v3 h) ?_
    generalize x_X7_reachAround_2 N r1 v2 f = self2 at hself2 ⊢
    refine mw_iload_n (n := 3) (q := 3) dX7_reachAround_2 rfl rfl rfl ?_
    refine mw_aload_n (n := 4) (q := 1) dX7_reachAround_3 rfl rfl rfl ?_
    refine mw_getr (n := 7) (a := r1) (k := 0) cl2 hr1 (by decide) rfl rfl fl_X7_36 dX7_reachAround_4 rfl ?_
    refine mw_geti (n := 10) (a := (r1 + 1)) (k := 0) cl6 (mk2_1 hg hr1) (by decide) rfl rfl fl_X7_63 dX7_reachAround_7 rfl ?_
    refine mw_icmp_ge (n := 13) (t := 51) dX7_reachAround_10 rfl (by decide) Iff.rfl (fun c1 => ?_) (fun c1 => ?_)
    · exact mw_vret dX7_reachAround_51 rfl rfl
    · refine mw_iload_n (n := 14) (q := 3) dX7_reachAround_13 rfl rfl rfl ?_
      refine mw_iconst (n := 15) (v := 1) dX7_reachAround_14 rfl (by decide) ?_
      refine mw_iadd (n := 16) dX7_reachAround_15 rfl ?_
      refine mw_letI (fun u2 => ?_)
      refine mw_istore (n := 18) dX7_reachAround_16 rfl (by decide) rfl ?_
      refine mw_sub [1, 2, 3, 4, 0] rfl ?_
      exact b_X7_reachAround_18 hg N r1 v2 v3 self2 hself2 hr1 N u2 h
noncomputable def x_X7_reachAround (N : Nat) (p0 : Nat) (p1 : Int32) (h : mH) : Option (mH) :=
  x_X7_reachAround_2 N p0 p1 N (0 : Int32) h
set_option maxRecDepth 20000 in
set_option maxHeartbeats 4000000 in
theorem t_X7_reachAround {g : mG} {l : Launch} (hg : mOK g) (N : Nat) (p0 : Nat) (p1 : Int32) (hp0 : mkn g p0 2) (h : mH) : mf g l 4 mX7_reachAround (fun r : mH => ((none : Option Value), r)) [.ref (mad g 67), .ref (mad g p0), .int p1] h (x_X7_reachAround N p0 p1 h) := by
  refine mf_of (by decide) (Nat.le_of_ble_eq_true rfl) ?_
  show mw g l 4 mX7_reachAround (fun r : mH => ((none : Option Value), r)) 0 [(0, .ref (mad g 67)), (1, .ref (mad g p0)), (2, .int p1)] [] h _
  unfold x_X7_reachAround
  refine mw_iconst (n := 1) (v := 0) dX7_reachAround_0 rfl (by decide) ?_
  refine mw_istore_n (n := 2) dX7_reachAround_1 rfl rfl (by decide) rfl ?_
  refine mw_sub [1, 2, 3, 0] rfl ?_
  exact b_X7_reachAround_2 hg N p0 p1 hp0 N (0 : Int32) h
noncomputable def x_X7_goFrom_91 (N : Nat) (r1 : Nat) (f : Nat) : Int32 → mH → Option (mH) :=
  Nat.rec (motive := fun _ => Int32 → mH → Option (mH)) (fun _ _ => none) (fun _ self91 => fun v2 h => 
    if (310 : Int32) ≤ v2 then
      some h
    else
      if (mgi h 67 2) ≤ v2 then
        some h
      else
        if (mgi h (r1 + 4) 3) ≤ (mgi h 67 2) then
          some h
        else
          mck v2 310 <|
          (x_X7_reachAround N r1 (mgi h 69 (v2).toNatClampNeg) h).bind fun q4 =>
          self91 (v2 + (1 : Int32)) q4) f
theorem x_X7_goFrom_91_0 (N : Nat) (r1 : Nat) (v2 : Int32) (h : mH) : x_X7_goFrom_91 N r1 0 v2 h = none := rfl
theorem x_X7_goFrom_91_s (N : Nat) (r1 : Nat) (f : Nat) (v2 : Int32) (h : mH) : x_X7_goFrom_91 N r1 (f + 1) v2 h = (
    if (310 : Int32) ≤ v2 then
      some h
    else
      if (mgi h 67 2) ≤ v2 then
        some h
      else
        if (mgi h (r1 + 4) 3) ≤ (mgi h 67 2) then
          some h
        else
          mck v2 310 <|
          (x_X7_reachAround N r1 (mgi h 69 (v2).toNatClampNeg) h).bind fun q4 =>
          (x_X7_goFrom_91 N r1 f) (v2 + (1 : Int32)) q4) := rfl
set_option maxRecDepth 20000 in
set_option maxHeartbeats 4000000 in
theorem b_X7_goFrom_91 {g : mG} {l : Launch} (hg : mOK g) (N : Nat) (r1 : Nat) (hr1 : mkn g r1 2) (f : Nat) : ∀ (v2 : Int32) (h : mH), mw g l 5 mX7_goFrom (fun r : mH => ((none : Option Value), r)) 91 [(0, .ref (mad g 67)), (1, .ref (mad g r1)), (2, .int v2)] [] h (x_X7_goFrom_91 N r1 f v2 h) := by
  induction f with
  | zero => intros; exact mw_none
  | succ f hself91 =>
    intro v2 h
    refine mw_eq (x_X7_goFrom_91_s N r1 f v2 h) ?_
    generalize x_X7_goFrom_91 N r1 f = self91 at hself91 ⊢
    refine mw_iload_n (n := 92) (q := 2) dX7_goFrom_91 rfl rfl rfl ?_
    refine mw_sipush (n := 95) (v := 310) dX7_goFrom_92 rfl (by decide) ?_
    refine mw_icmp_ge (n := 98) (t := 137) dX7_goFrom_95 rfl (by decide) Iff.rfl (fun c1 => ?_) (fun c1 => ?_)
    · exact mw_vret dX7_goFrom_137 rfl rfl
    · refine mw_iload_n (n := 99) (q := 2) dX7_goFrom_98 rfl rfl rfl ?_
      refine mw_aload_n (n := 100) (q := 0) dX7_goFrom_99 rfl rfl rfl ?_
      refine mw_geti (n := 103) (a := 67) (k := 2) cl7 (mkl hg (by decide) (by rfl)) (by decide) rfl rfl fl_X7_45 dX7_goFrom_100 rfl ?_
      refine mw_icmp_ge (n := 106) (t := 137) dX7_goFrom_103 rfl (by decide) Iff.rfl (fun c2 => ?_) (fun c2 => ?_)
      · exact mw_vret dX7_goFrom_137 rfl rfl
      · refine mw_aload_n (n := 107) (q := 0) dX7_goFrom_106 rfl rfl rfl ?_
        refine mw_geti (n := 110) (a := 67) (k := 2) cl7 (mkl hg (by decide) (by rfl)) (by decide) rfl rfl fl_X7_45 dX7_goFrom_107 rfl ?_
        refine mw_aload_n (n := 111) (q := 1) dX7_goFrom_110 rfl rfl rfl ?_
        refine mw_getr (n := 114) (a := r1) (k := 1) cl2 hr1 (by decide) rfl rfl fl_X7_25 dX7_goFrom_111 rfl ?_
        refine mw_geti (n := 117) (a := (r1 + 4)) (k := 3) cl1 (mk2_4 hg hr1) (by decide) rfl rfl fl_X7_52 dX7_goFrom_114 rfl ?_
        refine mw_icmp_ge (n := 120) (t := 137) dX7_goFrom_117 rfl (by decide) Iff.rfl (fun c3 => ?_) (fun c3 => ?_)
        · exact mw_vret dX7_goFrom_137 rfl rfl
        · refine mw_aload_n (n := 121) (q := 0) dX7_goFrom_120 rfl rfl rfl ?_
          refine mw_aload_n (n := 122) (q := 1) dX7_goFrom_121 rfl rfl rfl ?_
          refine mw_aload_n (n := 123) (q := 0) dX7_goFrom_122 rfl rfl rfl ?_
          refine mw_getr (n := 126) (a := 67) (k := 1) cl7 (mkl hg (by decide) (by rfl)) (by decide) rfl rfl fl_X7_15 dX7_goFrom_123 rfl ?_
          refine mw_iload_n (n := 127) (q := 2) dX7_goFrom_126 rfl rfl rfl ?_
          refine mw_iald (n := 128) (a := 69) (N := 310) (mkl hg (by decide) (by rfl)) dX7_goFrom_127 rfl ?_
          refine mw_callV (n := 131) (a := 67) (As := [.ref (mad g r1), .int (mgi h 69 (v2).toNatClampNeg)]) cl7 (mkl hg (by decide) (by rfl)) (t_X7_reachAround hg N r1 (mgi h 69 (v2).toNatClampNeg) hr1 h) (by decide) ok_X7_reachAround rfl rfl lk_X7_55 im_X7_reachAround se_X7_reachAround dX7_goFrom_128 rfl rfl (Nat.le_of_ble_eq_true rfl) (fun q4 _ => ?_)
          show mw g l _ _ _ 131 _ [] q4 _
          refine mw_iinc (n := 134) (q := 2) (v := (v2 + (1 : Int32))) dX7_goFrom_131 rfl rfl rfl (by decide) rfl ?_
          refine mw_goto (n := 91) dX7_goFrom_134 (by decide) ?_
          refine mw_sub [1, 2, 0] rfl ?_
          exact hself91 (v2 + (1 : Int32)) q4
noncomputable def x_X7_goFrom_53 (N : Nat) (r1 : Nat) (f : Nat) : Int32 → mH → Option (mH) :=
  Nat.rec (motive := fun _ => Int32 → mH → Option (mH)) (fun _ _ => none) (fun _ self53 => fun v2 h => 
    if (310 : Int32) ≤ v2 then
      mlet (msi h 67 2 (0 : Int32)) fun h2 =>
      (x_X7_reach N r1 (mgi h2 67 4) (0 : Int32) h2).bind fun q3 =>
      x_X7_goFrom_91 N r1 N (0 : Int32) q3
    else
      mck v2 310 <|
      mlet (msi h 68 (v2).toNatClampNeg (-9 : Int32)) fun h4 =>
      self53 (v2 + (1 : Int32)) h4) f
theorem x_X7_goFrom_53_0 (N : Nat) (r1 : Nat) (v2 : Int32) (h : mH) : x_X7_goFrom_53 N r1 0 v2 h = none := rfl
theorem x_X7_goFrom_53_s (N : Nat) (r1 : Nat) (f : Nat) (v2 : Int32) (h : mH) : x_X7_goFrom_53 N r1 (f + 1) v2 h = (
    if (310 : Int32) ≤ v2 then
      mlet (msi h 67 2 (0 : Int32)) fun h2 =>
      (x_X7_reach N r1 (mgi h2 67 4) (0 : Int32) h2).bind fun q3 =>
      x_X7_goFrom_91 N r1 N (0 : Int32) q3
    else
      mck v2 310 <|
      mlet (msi h 68 (v2).toNatClampNeg (-9 : Int32)) fun h4 =>
      (x_X7_goFrom_53 N r1 f) (v2 + (1 : Int32)) h4) := rfl
set_option maxRecDepth 20000 in
set_option maxHeartbeats 4000000 in
theorem b_X7_goFrom_53 {g : mG} {l : Launch} (hg : mOK g) (N : Nat) (r1 : Nat) (hr1 : mkn g r1 2) (f : Nat) : ∀ (v2 : Int32) (h : mH), mw g l 5 mX7_goFrom (fun r : mH => ((none : Option Value), r)) 53 [(0, .ref (mad g 67)), (1, .ref (mad g r1)), (2, .int v2)] [] h (x_X7_goFrom_53 N r1 f v2 h) := by
  induction f with
  | zero => intros; exact mw_none
  | succ f hself53 =>
    intro v2 h
    refine mw_eq (x_X7_goFrom_53_s N r1 f v2 h) ?_
    generalize x_X7_goFrom_53 N r1 f = self53 at hself53 ⊢
    refine mw_iload_n (n := 54) (q := 2) dX7_goFrom_53 rfl rfl rfl ?_
    refine mw_sipush (n := 57) (v := 310) dX7_goFrom_54 rfl (by decide) ?_
    refine mw_icmp_ge (n := 60) (t := 74) dX7_goFrom_57 rfl (by decide) Iff.rfl (fun c1 => ?_) (fun c1 => ?_)
    · refine mw_aload_n (n := 75) (q := 0) dX7_goFrom_74 rfl rfl rfl ?_
      refine mw_iconst (n := 76) (v := 0) dX7_goFrom_75 rfl (by decide) ?_
      refine mw_puti (n := 79) (a := 67) (k := 2) cl7 ct7 (mkl hg (by decide) (by rfl)) (by decide) rfl rfl rfl rfl fl_X7_45 dX7_goFrom_76 rfl (mw_leth (fun h2 => ?_))
      refine mw_aload_n (n := 80) (q := 0) dX7_goFrom_79 rfl rfl rfl ?_
      refine mw_aload_n (n := 81) (q := 1) dX7_goFrom_80 rfl rfl rfl ?_
      refine mw_aload_n (n := 82) (q := 0) dX7_goFrom_81 rfl rfl rfl ?_
      refine mw_geti (n := 85) (a := 67) (k := 4) cl7 (mkl hg (by decide) (by rfl)) (by decide) rfl rfl fl_X7_22 dX7_goFrom_82 rfl ?_
      refine mw_iconst (n := 86) (v := 0) dX7_goFrom_85 rfl (by decide) ?_
      refine mw_callV (n := 89) (a := 67) (As := [.ref (mad g r1), .int (mgi h2 67 4), .int (0 : Int32)]) cl7 (mkl hg (by decide) (by rfl)) (t_X7_reach hg N r1 (mgi h2 67 4) (0 : Int32) hr1 h2) (by decide) ok_X7_reach rfl rfl lk_X7_48 im_X7_reach se_X7_reach dX7_goFrom_86 rfl rfl (Nat.le_of_ble_eq_true rfl) (fun q3 _ => ?_)
      show mw g l _ _ _ 89 _ [] q3 _
      refine mw_iconst (n := 90) (v := 0) dX7_goFrom_89 rfl (by decide) ?_
      refine mw_istore_n (n := 91) dX7_goFrom_90 rfl rfl (by decide) rfl ?_
      refine mw_sub [1, 2, 0] rfl ?_
      exact b_X7_goFrom_91 hg N r1 hr1 N (0 : Int32) q3
    · refine mw_aload_n (n := 61) (q := 0) dX7_goFrom_60 rfl rfl rfl ?_
      refine mw_getr (n := 64) (a := 67) (k := 0) cl7 (mkl hg (by decide) (by rfl)) (by decide) rfl rfl fl_X7_9 dX7_goFrom_61 rfl ?_
      refine mw_iload_n (n := 65) (q := 2) dX7_goFrom_64 rfl rfl rfl ?_
      refine mw_bipush (n := 67) (v := -9) dX7_goFrom_65 rfl (by decide) ?_
      refine mw_iast (n := 68) (a := 68) (N := 310) (mkl hg (by decide) (by rfl)) dX7_goFrom_67 rfl (mw_leth (fun h4 => ?_))
      refine mw_iinc (n := 71) (q := 2) (v := (v2 + (1 : Int32))) dX7_goFrom_68 rfl rfl rfl (by decide) rfl ?_
      refine mw_goto (n := 53) dX7_goFrom_71 (by decide) ?_
      refine mw_sub [1, 2, 0] rfl ?_
      exact hself53 (v2 + (1 : Int32)) h4
noncomputable def x_X7_goFrom_29 (N : Nat) (r1 : Nat) (h : mH) : Option (mH) :=
  mlet (msi h 67 3 (mgi h (r1 + 4) 4)) fun h1 =>
  mlet (msi h1 67 4 (mgi h1 (r1 + 1) 6)) fun h2 =>
  x_X7_goFrom_53 N r1 N (0 : Int32) h2
set_option maxRecDepth 20000 in
set_option maxHeartbeats 4000000 in
theorem b_X7_goFrom_29 {g : mG} {l : Launch} (hg : mOK g) (N : Nat) (r1 : Nat) (hr1 : mkn g r1 2) (h : mH) : mw g l 5 mX7_goFrom (fun r : mH => ((none : Option Value), r)) 29 [(0, .ref (mad g 67)), (1, .ref (mad g r1))] [] h (x_X7_goFrom_29 N r1 h) := by
  unfold x_X7_goFrom_29
  refine mw_aload_n (n := 30) (q := 0) dX7_goFrom_29 rfl rfl rfl ?_
  refine mw_aload_n (n := 31) (q := 1) dX7_goFrom_30 rfl rfl rfl ?_
  refine mw_getr (n := 34) (a := r1) (k := 1) cl2 hr1 (by decide) rfl rfl fl_X7_25 dX7_goFrom_31 rfl ?_
  refine mw_geti (n := 37) (a := (r1 + 4)) (k := 4) cl1 (mk2_4 hg hr1) (by decide) rfl rfl fl_X7_31 dX7_goFrom_34 rfl ?_
  refine mw_puti (n := 40) (a := 67) (k := 3) cl7 ct7 (mkl hg (by decide) (by rfl)) (by decide) rfl rfl rfl rfl fl_X7_18 dX7_goFrom_37 rfl (mw_leth (fun h1 => ?_))
  refine mw_aload_n (n := 41) (q := 0) dX7_goFrom_40 rfl rfl rfl ?_
  refine mw_aload_n (n := 42) (q := 1) dX7_goFrom_41 rfl rfl rfl ?_
  refine mw_getr (n := 45) (a := r1) (k := 0) cl2 hr1 (by decide) rfl rfl fl_X7_36 dX7_goFrom_42 rfl ?_
  refine mw_geti (n := 48) (a := (r1 + 1)) (k := 6) cl6 (mk2_1 hg hr1) (by decide) rfl rfl fl_X7_40 dX7_goFrom_45 rfl ?_
  refine mw_puti (n := 51) (a := 67) (k := 4) cl7 ct7 (mkl hg (by decide) (by rfl)) (by decide) rfl rfl rfl rfl fl_X7_22 dX7_goFrom_48 rfl (mw_leth (fun h2 => ?_))
  refine mw_iconst (n := 52) (v := 0) dX7_goFrom_51 rfl (by decide) ?_
  refine mw_istore_n (n := 53) dX7_goFrom_52 rfl rfl (by decide) rfl ?_
  refine mw_sub [1, 2, 0] rfl ?_
  exact b_X7_goFrom_53 hg N r1 hr1 N (0 : Int32) h2
noncomputable def x_X7_goFrom (N : Nat) (p0 : Nat) (h : mH) : Option (mH) :=
  if ¬ (mgi h 67 3) = (mgi h (p0 + 4) 4) then
    x_X7_goFrom_29 N p0 h
  else
    if ¬ (mgi h 67 4) = (mgi h (p0 + 1) 6) then
      x_X7_goFrom_29 N p0 h
    else
      some h
set_option maxRecDepth 20000 in
set_option maxHeartbeats 4000000 in
theorem t_X7_goFrom {g : mG} {l : Launch} (hg : mOK g) (N : Nat) (p0 : Nat) (hp0 : mkn g p0 2) (h : mH) : mf g l 5 mX7_goFrom (fun r : mH => ((none : Option Value), r)) [.ref (mad g 67), .ref (mad g p0)] h (x_X7_goFrom N p0 h) := by
  refine mf_of (by decide) (Nat.le_of_ble_eq_true rfl) ?_
  show mw g l 5 mX7_goFrom (fun r : mH => ((none : Option Value), r)) 0 [(0, .ref (mad g 67)), (1, .ref (mad g p0))] [] h _
  unfold x_X7_goFrom
  refine mw_aload_n (n := 1) (q := 0) dX7_goFrom_0 rfl rfl rfl ?_
  refine mw_geti (n := 4) (a := 67) (k := 3) cl7 (mkl hg (by decide) (by rfl)) (by decide) rfl rfl fl_X7_18 dX7_goFrom_1 rfl ?_
  refine mw_aload_n (n := 5) (q := 1) dX7_goFrom_4 rfl rfl rfl ?_
  refine mw_getr (n := 8) (a := p0) (k := 1) cl2 hp0 (by decide) rfl rfl fl_X7_25 dX7_goFrom_5 rfl ?_
  refine mw_geti (n := 11) (a := (p0 + 4)) (k := 4) cl1 (mk2_4 hg hp0) (by decide) rfl rfl fl_X7_31 dX7_goFrom_8 rfl ?_
  refine mw_icmp_ne (n := 14) (t := 29) dX7_goFrom_11 rfl (by decide) Iff.rfl (fun c1 => ?_) (fun c1 => ?_)
  · exact b_X7_goFrom_29 hg N p0 hp0 h
  · refine mw_aload_n (n := 15) (q := 0) dX7_goFrom_14 rfl rfl rfl ?_
    refine mw_geti (n := 18) (a := 67) (k := 4) cl7 (mkl hg (by decide) (by rfl)) (by decide) rfl rfl fl_X7_22 dX7_goFrom_15 rfl ?_
    refine mw_aload_n (n := 19) (q := 1) dX7_goFrom_18 rfl rfl rfl ?_
    refine mw_getr (n := 22) (a := p0) (k := 0) cl2 hp0 (by decide) rfl rfl fl_X7_36 dX7_goFrom_19 rfl ?_
    refine mw_geti (n := 25) (a := (p0 + 1)) (k := 6) cl6 (mk2_1 hg hp0) (by decide) rfl rfl fl_X7_40 dX7_goFrom_22 rfl ?_
    refine mw_icmp_ne (n := 28) (t := 29) dX7_goFrom_25 rfl (by decide) Iff.rfl (fun c2 => ?_) (fun c2 => ?_)
    · exact b_X7_goFrom_29 hg N p0 hp0 h
    · exact mw_vret dX7_goFrom_28 rfl rfl
noncomputable def x_X7_stepsTo (p0 : Int32) (h : mH) : Option (Int32) :=
  if p0 < 0 then
    some (-9 : Int32)
  else
    if (310 : Int32) ≤ p0 then
      some (-9 : Int32)
    else
      mck p0 310 <|
      some (mgi h 68 (p0).toNatClampNeg)
set_option maxRecDepth 20000 in
set_option maxHeartbeats 4000000 in
theorem t_X7_stepsTo {g : mG} {l : Launch} (hg : mOK g) (p0 : Int32) (h : mH) : mf g l 0 mX7_stepsTo (fun r : Int32 => (some (Value.int r), h)) [.ref (mad g 67), .int p0] h (x_X7_stepsTo p0 h) := by
  refine mf_of (by decide) (Nat.le_of_ble_eq_true rfl) ?_
  show mw g l 0 mX7_stepsTo (fun r : Int32 => (some (Value.int r), h)) 0 [(0, .ref (mad g 67)), (1, .int p0)] [] h _
  unfold x_X7_stepsTo
  refine mw_iload_n (n := 1) (q := 1) dX7_stepsTo_0 rfl rfl rfl ?_
  refine mw_if_lt (n := 4) (t := 20) dX7_stepsTo_1 rfl (by decide) Iff.rfl (fun c1 => ?_) (fun c1 => ?_)
  · refine mw_bipush (n := 22) (v := -9) dX7_stepsTo_20 rfl (by decide) ?_
    exact mw_iret dX7_stepsTo_22 rfl rfl
  · refine mw_iload_n (n := 5) (q := 1) dX7_stepsTo_4 rfl rfl rfl ?_
    refine mw_sipush (n := 8) (v := 310) dX7_stepsTo_5 rfl (by decide) ?_
    refine mw_icmp_ge (n := 11) (t := 20) dX7_stepsTo_8 rfl (by decide) Iff.rfl (fun c2 => ?_) (fun c2 => ?_)
    · refine mw_bipush (n := 22) (v := -9) dX7_stepsTo_20 rfl (by decide) ?_
      exact mw_iret dX7_stepsTo_22 rfl rfl
    · refine mw_aload_n (n := 12) (q := 0) dX7_stepsTo_11 rfl rfl rfl ?_
      refine mw_getr (n := 15) (a := 67) (k := 0) cl7 (mkl hg (by decide) (by rfl)) (by decide) rfl rfl fl_X7_9 dX7_stepsTo_12 rfl ?_
      refine mw_iload_n (n := 16) (q := 1) dX7_stepsTo_15 rfl rfl rfl ?_
      refine mw_iald (n := 17) (a := 68) (N := 310) (mkl hg (by decide) (by rfl)) dX7_stepsTo_16 rfl ?_
      refine mw_goto (n := 22) dX7_stepsTo_17 (by decide) ?_
      exact mw_iret dX7_stepsTo_22 rfl rfl
noncomputable def x_X5_listPins_52 (N : Nat) (self7 : Int32 → mH → Option (mH)) (r1 : Nat) (v2 : Int32) (h : mH) : Option (mH) :=
  self7 (v2 + (1 : Int32)) h
set_option maxRecDepth 20000 in
set_option maxHeartbeats 4000000 in
theorem b_X5_listPins_52 {g : mG} {l : Launch} (hg : mOK g) (N : Nat) (r1 : Nat) (v2 : Int32) (self7 : Int32 → mH → Option (mH)) (hself7 : ∀ (v2 : Int32) (h : mH), mw g l 2 mX5_listPins (fun r : mH => ((none : Option Value), r)) 7 [(0, .ref (mad g 70)), (1, .ref (mad g r1)), (2, .int v2)] [] h (self7 v2 h)) (hr1 : mkn g r1 6) (h : mH) : mw g l 2 mX5_listPins (fun r : mH => ((none : Option Value), r)) 52 [(0, .ref (mad g 70)), (1, .ref (mad g r1)), (2, .int v2)] [] h (x_X5_listPins_52 N self7 r1 v2 h) := by
  unfold x_X5_listPins_52
  refine mw_iinc (n := 55) (q := 2) (v := (v2 + (1 : Int32))) dX5_listPins_52 rfl rfl rfl (by decide) rfl ?_
  refine mw_goto (n := 7) dX5_listPins_55 (by decide) ?_
  refine mw_sub [1, 2, 0] rfl ?_
  exact hself7 (v2 + (1 : Int32)) h
noncomputable def x_X5_listPins_7 (N : Nat) (r1 : Nat) (f : Nat) : Int32 → mH → Option (mH) :=
  Nat.rec (motive := fun _ => Int32 → mH → Option (mH)) (fun _ _ => none) (fun _ self7 => fun v2 h => 
    (x_X6_cells r1 h).bind fun q1 =>
    if q1 ≤ v2 then
      some h
    else
      if (6 : Int32) ≤ (mgi h 70 3) then
        some h
      else
        (x_X6_pinOf r1 v2 h).bind fun q4 =>
        if q4 = 0 then
          x_X5_listPins_52 N self7 r1 v2 h
        else
          mck (mgi h 70 3) 6 <|
          mlet (msi h 71 ((mgi h 70 3)).toNatClampNeg v2) fun h6 =>
          mlet (msi h6 70 3 ((mgi h6 70 3) + (1 : Int32))) fun h7 =>
          x_X5_listPins_52 N self7 r1 v2 h7) f
theorem x_X5_listPins_7_0 (N : Nat) (r1 : Nat) (v2 : Int32) (h : mH) : x_X5_listPins_7 N r1 0 v2 h = none := rfl
theorem x_X5_listPins_7_s (N : Nat) (r1 : Nat) (f : Nat) (v2 : Int32) (h : mH) : x_X5_listPins_7 N r1 (f + 1) v2 h = (
    (x_X6_cells r1 h).bind fun q1 =>
    if q1 ≤ v2 then
      some h
    else
      if (6 : Int32) ≤ (mgi h 70 3) then
        some h
      else
        (x_X6_pinOf r1 v2 h).bind fun q4 =>
        if q4 = 0 then
          x_X5_listPins_52 N (x_X5_listPins_7 N r1 f) r1 v2 h
        else
          mck (mgi h 70 3) 6 <|
          mlet (msi h 71 ((mgi h 70 3)).toNatClampNeg v2) fun h6 =>
          mlet (msi h6 70 3 ((mgi h6 70 3) + (1 : Int32))) fun h7 =>
          x_X5_listPins_52 N (x_X5_listPins_7 N r1 f) r1 v2 h7) := rfl
set_option maxRecDepth 20000 in
set_option maxHeartbeats 4000000 in
theorem b_X5_listPins_7 {g : mG} {l : Launch} (hg : mOK g) (N : Nat) (r1 : Nat) (hr1 : mkn g r1 6) (f : Nat) : ∀ (v2 : Int32) (h : mH), mw g l 2 mX5_listPins (fun r : mH => ((none : Option Value), r)) 7 [(0, .ref (mad g 70)), (1, .ref (mad g r1)), (2, .int v2)] [] h (x_X5_listPins_7 N r1 f v2 h) := by
  induction f with
  | zero => intros; exact mw_none
  | succ f hself7 =>
    intro v2 h
    refine mw_eq (x_X5_listPins_7_s N r1 f v2 h) ?_
    generalize x_X5_listPins_7 N r1 f = self7 at hself7 ⊢
    refine mw_iload_n (n := 8) (q := 2) dX5_listPins_7 rfl rfl rfl ?_
    refine mw_aload_n (n := 9) (q := 1) dX5_listPins_8 rfl rfl rfl ?_
    refine mw_callV (n := 12) (a := r1) (As := []) cl6 hr1 (t_X6_cells hg r1 hr1 h) (by decide) ok_X6_cells rfl rfl lk_X5_51 im_X6_cells se_X6_cells dX5_listPins_9 rfl rfl (Nat.le_of_ble_eq_true rfl) (fun q1 _ => ?_)
    show mw g l _ _ _ 12 _ [.int q1, .int v2] h _
    refine mw_icmp_ge (n := 15) (t := 58) dX5_listPins_12 rfl (by decide) Iff.rfl (fun c2 => ?_) (fun c2 => ?_)
    · exact mw_vret dX5_listPins_58 rfl rfl
    · refine mw_aload_n (n := 16) (q := 0) dX5_listPins_15 rfl rfl rfl ?_
      refine mw_geti (n := 19) (a := 70) (k := 3) cl5 (mkl hg (by decide) (by rfl)) (by decide) rfl rfl fl_X5_31 dX5_listPins_16 rfl ?_
      refine mw_bipush (n := 21) (v := 6) dX5_listPins_19 rfl (by decide) ?_
      refine mw_icmp_ge (n := 24) (t := 58) dX5_listPins_21 rfl (by decide) Iff.rfl (fun c3 => ?_) (fun c3 => ?_)
      · exact mw_vret dX5_listPins_58 rfl rfl
      · refine mw_aload_n (n := 25) (q := 1) dX5_listPins_24 rfl rfl rfl ?_
        refine mw_iload_n (n := 26) (q := 2) dX5_listPins_25 rfl rfl rfl ?_
        refine mw_callV (n := 29) (a := r1) (As := [.int v2]) cl6 hr1 (t_X6_pinOf hg r1 v2 hr1 h) (by decide) ok_X6_pinOf rfl rfl lk_X5_56 im_X6_pinOf se_X6_pinOf dX5_listPins_26 rfl rfl (Nat.le_of_ble_eq_true rfl) (fun q4 _ => ?_)
        show mw g l _ _ _ 29 _ [.int q4] h _
        refine mw_if_eq (n := 32) (t := 52) dX5_listPins_29 rfl (by decide) Iff.rfl (fun c5 => ?_) (fun c5 => ?_)
        · exact b_X5_listPins_52 hg N r1 v2 self7 hself7 hr1 h
        · refine mw_aload_n (n := 33) (q := 0) dX5_listPins_32 rfl rfl rfl ?_
          refine mw_getr (n := 36) (a := 70) (k := 0) cl5 (mkl hg (by decide) (by rfl)) (by decide) rfl rfl fl_X5_9 dX5_listPins_33 rfl ?_
          refine mw_aload_n (n := 37) (q := 0) dX5_listPins_36 rfl rfl rfl ?_
          refine mw_geti (n := 40) (a := 70) (k := 3) cl5 (mkl hg (by decide) (by rfl)) (by decide) rfl rfl fl_X5_31 dX5_listPins_37 rfl ?_
          refine mw_iload_n (n := 41) (q := 2) dX5_listPins_40 rfl rfl rfl ?_
          refine mw_iast (n := 42) (a := 71) (N := 6) (mkl hg (by decide) (by rfl)) dX5_listPins_41 rfl (mw_leth (fun h6 => ?_))
          refine mw_aload_n (n := 43) (q := 0) dX5_listPins_42 rfl rfl rfl ?_
          refine mw_dup (n := 44) dX5_listPins_43 rfl rfl ?_
          refine mw_geti (n := 47) (a := 70) (k := 3) cl5 (mkl hg (by decide) (by rfl)) (by decide) rfl rfl fl_X5_31 dX5_listPins_44 rfl ?_
          refine mw_iconst (n := 48) (v := 1) dX5_listPins_47 rfl (by decide) ?_
          refine mw_iadd (n := 49) dX5_listPins_48 rfl ?_
          refine mw_puti (n := 52) (a := 70) (k := 3) cl5 ct5 (mkl hg (by decide) (by rfl)) (by decide) rfl rfl rfl rfl fl_X5_31 dX5_listPins_49 rfl (mw_leth (fun h7 => ?_))
          exact b_X5_listPins_52 hg N r1 v2 self7 hself7 hr1 h7
noncomputable def x_X5_listPins (N : Nat) (p0 : Nat) (h : mH) : Option (mH) :=
  mlet (msi h 70 3 (0 : Int32)) fun h1 =>
  x_X5_listPins_7 N p0 N (0 : Int32) h1
set_option maxRecDepth 20000 in
set_option maxHeartbeats 4000000 in
theorem t_X5_listPins {g : mG} {l : Launch} (hg : mOK g) (N : Nat) (p0 : Nat) (hp0 : mkn g p0 6) (h : mH) : mf g l 2 mX5_listPins (fun r : mH => ((none : Option Value), r)) [.ref (mad g 70), .ref (mad g p0)] h (x_X5_listPins N p0 h) := by
  refine mf_of (by decide) (Nat.le_of_ble_eq_true rfl) ?_
  show mw g l 2 mX5_listPins (fun r : mH => ((none : Option Value), r)) 0 [(0, .ref (mad g 70)), (1, .ref (mad g p0))] [] h _
  unfold x_X5_listPins
  refine mw_aload_n (n := 1) (q := 0) dX5_listPins_0 rfl rfl rfl ?_
  refine mw_iconst (n := 2) (v := 0) dX5_listPins_1 rfl (by decide) ?_
  refine mw_puti (n := 5) (a := 70) (k := 3) cl5 ct5 (mkl hg (by decide) (by rfl)) (by decide) rfl rfl rfl rfl fl_X5_31 dX5_listPins_2 rfl (mw_leth (fun h1 => ?_))
  refine mw_iconst (n := 6) (v := 0) dX5_listPins_5 rfl (by decide) ?_
  refine mw_istore_n (n := 7) dX5_listPins_6 rfl rfl (by decide) rfl ?_
  refine mw_sub [1, 2, 0] rfl ?_
  exact b_X5_listPins_7 hg N p0 hp0 N (0 : Int32) h1
noncomputable def x_X5_brokenBy_18 (N : Nat) (v3 : Int32) (h : mH) (f : Nat) : Int32 → Int32 → Option (Int32) :=
  Nat.rec (motive := fun _ => Int32 → Int32 → Option (Int32)) (fun _ _ => none) (fun _ self18 => fun v4 v5 => 
    if (mgi h 70 3) ≤ v5 then
      some v4
    else
      mck v5 6 <|
      (x_X8_yesIn v3 (mgi h 71 (v5).toNatClampNeg)).bind fun q2 =>
      mlet (v4 ||| (q2 <<< (v5 &&& 31))) fun u3 =>
      self18 u3 (v5 + (1 : Int32))) f
theorem x_X5_brokenBy_18_0 (N : Nat) (v3 : Int32) (h : mH) (v4 : Int32) (v5 : Int32) : x_X5_brokenBy_18 N v3 h 0 v4 v5 = none := rfl
theorem x_X5_brokenBy_18_s (N : Nat) (v3 : Int32) (h : mH) (f : Nat) (v4 : Int32) (v5 : Int32) : x_X5_brokenBy_18 N v3 h (f + 1) v4 v5 = (
    if (mgi h 70 3) ≤ v5 then
      some v4
    else
      mck v5 6 <|
      (x_X8_yesIn v3 (mgi h 71 (v5).toNatClampNeg)).bind fun q2 =>
      mlet (v4 ||| (q2 <<< (v5 &&& 31))) fun u3 =>
      (x_X5_brokenBy_18 N v3 h f) u3 (v5 + (1 : Int32))) := rfl
set_option maxRecDepth 20000 in
set_option maxHeartbeats 4000000 in
theorem b_X5_brokenBy_18 {g : mG} {l : Launch} (hg : mOK g) (N : Nat) (v3 : Int32) (h : mH) (f : Nat) : ∀ (v4 : Int32) (v5 : Int32), mw g l 2 mX5_brokenBy (fun r : Int32 => (some (Value.int r), h)) 18 [(0, .ref (mad g 70)), (3, .int v3), (4, .int v4), (5, .int v5)] [] h (x_X5_brokenBy_18 N v3 h f v4 v5) := by
  induction f with
  | zero => intros; exact mw_none
  | succ f hself18 =>
    intro v4 v5
    refine mw_eq (x_X5_brokenBy_18_s N v3 h f v4 v5) ?_
    generalize x_X5_brokenBy_18 N v3 h f = self18 at hself18 ⊢
    refine mw_iload (n := 20) (q := 3) dX5_brokenBy_18 rfl rfl ?_
    refine mw_aload_n (n := 21) (q := 0) dX5_brokenBy_20 rfl rfl rfl ?_
    refine mw_geti (n := 24) (a := 70) (k := 3) cl5 (mkl hg (by decide) (by rfl)) (by decide) rfl rfl fl_X5_31 dX5_brokenBy_21 rfl ?_
    refine mw_icmp_ge (n := 27) (t := 52) dX5_brokenBy_24 rfl (by decide) Iff.rfl (fun c1 => ?_) (fun c1 => ?_)
    · refine mw_iload (n := 54) (q := 2) dX5_brokenBy_52 rfl rfl ?_
      exact mw_iret dX5_brokenBy_54 rfl rfl
    · refine mw_iload (n := 29) (q := 2) dX5_brokenBy_27 rfl rfl ?_
      refine mw_iload_n (n := 30) (q := 1) dX5_brokenBy_29 rfl rfl rfl ?_
      refine mw_aload_n (n := 31) (q := 0) dX5_brokenBy_30 rfl rfl rfl ?_
      refine mw_getr (n := 34) (a := 70) (k := 0) cl5 (mkl hg (by decide) (by rfl)) (by decide) rfl rfl fl_X5_9 dX5_brokenBy_31 rfl ?_
      refine mw_iload (n := 36) (q := 3) dX5_brokenBy_34 rfl rfl ?_
      refine mw_iald (n := 37) (a := 71) (N := 6) (mkl hg (by decide) (by rfl)) dX5_brokenBy_36 rfl ?_
      refine mw_callN (n := 40) (As := [.int v3, .int (mgi h 71 (v5).toNatClampNeg)]) (t_X8_yesIn hg v3 (mgi h 71 (v5).toNatClampNeg) h) (by decide) ok_X8_yesIn rfl ln_X5_66 sm_X8_yesIn dX5_brokenBy_37 rfl rfl (Nat.le_of_ble_eq_true rfl) (fun q2 _ => ?_)
      show mw g l _ _ _ 40 _ [.int q2, .int v4] h _
      refine mw_iload (n := 42) (q := 3) dX5_brokenBy_40 rfl rfl ?_
      refine mw_ishl (n := 43) dX5_brokenBy_42 rfl ?_
      refine mw_ior (n := 44) dX5_brokenBy_43 rfl ?_
      refine mw_letI (fun u3 => ?_)
      refine mw_istore (n := 46) dX5_brokenBy_44 rfl (by decide) rfl ?_
      refine mw_iinc (n := 49) (q := 3) (v := (v5 + (1 : Int32))) dX5_brokenBy_46 rfl rfl rfl (by decide) rfl ?_
      refine mw_goto (n := 18) dX5_brokenBy_49 (by decide) ?_
      refine mw_sub [2, 3, 1, 0] rfl ?_
      exact hself18 u3 (v5 + (1 : Int32))
noncomputable def x_X5_brokenBy (N : Nat) (p0 : Nat) (p1 : Int32) (h : mH) : Option (Int32) :=
  mlet ((p1 ^^^ (mgi h p0 5)) &&& (mgi h p0 4)) fun u1 =>
  x_X5_brokenBy_18 N u1 h N (0 : Int32) (0 : Int32)
set_option maxRecDepth 20000 in
set_option maxHeartbeats 4000000 in
theorem t_X5_brokenBy {g : mG} {l : Launch} (hg : mOK g) (N : Nat) (p0 : Nat) (p1 : Int32) (hp0 : mkn g p0 6) (h : mH) : mf g l 2 mX5_brokenBy (fun r : Int32 => (some (Value.int r), h)) [.ref (mad g 70), .ref (mad g p0), .int p1] h (x_X5_brokenBy N p0 p1 h) := by
  refine mf_of (by decide) (Nat.le_of_ble_eq_true rfl) ?_
  show mw g l 2 mX5_brokenBy (fun r : Int32 => (some (Value.int r), h)) 0 [(0, .ref (mad g 70)), (1, .ref (mad g p0)), (2, .int p1)] [] h _
  unfold x_X5_brokenBy
  refine mw_iload_n (n := 1) (q := 2) dX5_brokenBy_0 rfl rfl rfl ?_
  refine mw_aload_n (n := 2) (q := 1) dX5_brokenBy_1 rfl rfl rfl ?_
  refine mw_geti (n := 5) (a := p0) (k := 5) cl6 hp0 (by decide) rfl rfl fl_X5_60 dX5_brokenBy_2 rfl ?_
  refine mw_ixor (n := 6) dX5_brokenBy_5 rfl ?_
  refine mw_aload_n (n := 7) (q := 1) dX5_brokenBy_6 rfl rfl rfl ?_
  refine mw_geti (n := 10) (a := p0) (k := 4) cl6 hp0 (by decide) rfl rfl fl_X5_63 dX5_brokenBy_7 rfl ?_
  refine mw_iand (n := 11) dX5_brokenBy_10 rfl ?_
  refine mw_letI (fun u1 => ?_)
  refine mw_istore_n (n := 12) dX5_brokenBy_11 rfl rfl (by decide) rfl ?_
  refine mw_iconst (n := 13) (v := 0) dX5_brokenBy_12 rfl (by decide) ?_
  refine mw_istore (n := 15) dX5_brokenBy_13 rfl (by decide) rfl ?_
  refine mw_iconst (n := 16) (v := 0) dX5_brokenBy_15 rfl (by decide) ?_
  refine mw_istore (n := 18) dX5_brokenBy_16 rfl (by decide) rfl ?_
  refine mw_sub [3, 2, 1, 0] rfl ?_
  exact b_X5_brokenBy_18 hg N u1 h N (0 : Int32) (0 : Int32)
noncomputable def x_X5_weigh_128 (N : Nat) (self89 : Int32 → mH → Option (mH)) (self97 : Int32 → mH → Option (mH)) (v2 : Int32) (v3 : Int32) (v4 : Int32) (s0 : Int32) (s1 : Int32) (s2 : Int32) (h : mH) : Option (mH) :=
  mck s2 64 <|
  mlet (msi h 73 (s2).toNatClampNeg (s1 + s0)) fun h1 =>
  self97 (v4 + (1 : Int32)) h1
set_option maxRecDepth 20000 in
set_option maxHeartbeats 4000000 in
theorem b_X5_weigh_128 {g : mG} {l : Launch} (hg : mOK g) (N : Nat) (v2 : Int32) (v3 : Int32) (v4 : Int32) (s0 : Int32) (s1 : Int32) (s2 : Int32) (self89 : Int32 → mH → Option (mH)) (hself89 : ∀ (v3 : Int32) (h : mH), mw g l 3 mX5_weigh (fun r : mH => ((none : Option Value), r)) 89 [(0, .ref (mad g 70)), (2, .int v2), (3, .int v3)] [] h (self89 v3 h)) (self97 : Int32 → mH → Option (mH)) (hself97 : ∀ (v4 : Int32) (h : mH), mw g l 3 mX5_weigh (fun r : mH => ((none : Option Value), r)) 97 [(0, .ref (mad g 70)), (2, .int v2), (3, .int v3), (4, .int v4)] [] h (self97 v4 h)) (h : mH) : mw g l 3 mX5_weigh (fun r : mH => ((none : Option Value), r)) 128 [(0, .ref (mad g 70)), (2, .int v2), (3, .int v3), (4, .int v4)] [.int s0, .int s1, .int s2, .ref (mad g 73)] h (x_X5_weigh_128 N self89 self97 v2 v3 v4 s0 s1 s2 h) := by
  unfold x_X5_weigh_128
  refine mw_iadd (n := 129) dX5_weigh_128 rfl ?_
  refine mw_iast (n := 130) (a := 73) (N := 64) (mkl hg (by decide) (by rfl)) dX5_weigh_129 rfl (mw_leth (fun h1 => ?_))
  refine mw_iinc (n := 133) (q := 3) (v := (v4 + (1 : Int32))) dX5_weigh_130 rfl rfl rfl (by decide) rfl ?_
  refine mw_goto (n := 97) dX5_weigh_133 (by decide) ?_
  refine mw_sub [1, 2, 3, 0] rfl ?_
  exact hself97 (v4 + (1 : Int32)) h1
noncomputable def x_X5_weigh_97 (N : Nat) (self89 : Int32 → mH → Option (mH)) (v2 : Int32) (v3 : Int32) (f : Nat) : Int32 → mH → Option (mH) :=
  Nat.rec (motive := fun _ => Int32 → mH → Option (mH)) (fun _ _ => none) (fun _ self97 => fun v4 h => 
    if v2 ≤ v4 then
      self89 (v3 + (1 : Int32)) h
    else
      mck v3 64 <|
      if ¬ (v3 &&& v4) = 0 then
        x_X5_weigh_128 N self89 self97 v2 v3 v4 (0 : Int32) (mgi h 73 (v3).toNatClampNeg) v3 h
      else
        mck v4 64 <|
        x_X5_weigh_128 N self89 self97 v2 v3 v4 (mgi h 72 (v4).toNatClampNeg) (mgi h 73 (v3).toNatClampNeg) v3 h) f
theorem x_X5_weigh_97_0 (N : Nat) (self89 : Int32 → mH → Option (mH)) (v2 : Int32) (v3 : Int32) (v4 : Int32) (h : mH) : x_X5_weigh_97 N self89 v2 v3 0 v4 h = none := rfl
theorem x_X5_weigh_97_s (N : Nat) (self89 : Int32 → mH → Option (mH)) (v2 : Int32) (v3 : Int32) (f : Nat) (v4 : Int32) (h : mH) : x_X5_weigh_97 N self89 v2 v3 (f + 1) v4 h = (
    if v2 ≤ v4 then
      self89 (v3 + (1 : Int32)) h
    else
      mck v3 64 <|
      if ¬ (v3 &&& v4) = 0 then
        x_X5_weigh_128 N self89 (x_X5_weigh_97 N self89 v2 v3 f) v2 v3 v4 (0 : Int32) (mgi h 73 (v3).toNatClampNeg) v3 h
      else
        mck v4 64 <|
        x_X5_weigh_128 N self89 (x_X5_weigh_97 N self89 v2 v3 f) v2 v3 v4 (mgi h 72 (v4).toNatClampNeg) (mgi h 73 (v3).toNatClampNeg) v3 h) := rfl
set_option maxRecDepth 20000 in
set_option maxHeartbeats 4000000 in
theorem b_X5_weigh_97 {g : mG} {l : Launch} (hg : mOK g) (N : Nat) (v2 : Int32) (v3 : Int32) (self89 : Int32 → mH → Option (mH)) (hself89 : ∀ (v3 : Int32) (h : mH), mw g l 3 mX5_weigh (fun r : mH => ((none : Option Value), r)) 89 [(0, .ref (mad g 70)), (2, .int v2), (3, .int v3)] [] h (self89 v3 h)) (f : Nat) : ∀ (v4 : Int32) (h : mH), mw g l 3 mX5_weigh (fun r : mH => ((none : Option Value), r)) 97 [(0, .ref (mad g 70)), (2, .int v2), (3, .int v3), (4, .int v4)] [] h (x_X5_weigh_97 N self89 v2 v3 f v4 h) := by
  induction f with
  | zero => intros; exact mw_none
  | succ f hself97 =>
    intro v4 h
    refine mw_eq (x_X5_weigh_97_s N self89 v2 v3 f v4 h) ?_
    generalize x_X5_weigh_97 N self89 v2 v3 f = self97 at hself97 ⊢
    refine mw_iload (n := 99) (q := 3) dX5_weigh_97 rfl rfl ?_
    refine mw_iload_n (n := 100) (q := 1) dX5_weigh_99 rfl rfl rfl ?_
    refine mw_icmp_ge (n := 103) (t := 136) dX5_weigh_100 rfl (by decide) Iff.rfl (fun c1 => ?_) (fun c1 => ?_)
    · refine mw_iinc (n := 139) (q := 2) (v := (v3 + (1 : Int32))) dX5_weigh_136 rfl rfl rfl (by decide) rfl ?_
      refine mw_goto (n := 89) dX5_weigh_139 (by decide) ?_
      refine mw_sub [1, 2, 0] rfl ?_
      exact hself89 (v3 + (1 : Int32)) h
    · refine mw_aload_n (n := 104) (q := 0) dX5_weigh_103 rfl rfl rfl ?_
      refine mw_getr (n := 107) (a := 70) (k := 2) cl5 (mkl hg (by decide) (by rfl)) (by decide) rfl rfl fl_X5_18 dX5_weigh_104 rfl ?_
      refine mw_iload_n (n := 108) (q := 2) dX5_weigh_107 rfl rfl rfl ?_
      refine mw_dup2 (n := 109) dX5_weigh_108 rfl rfl rfl ?_
      refine mw_iald (n := 110) (a := 73) (N := 64) (mkl hg (by decide) (by rfl)) dX5_weigh_109 rfl ?_
      refine mw_iload_n (n := 111) (q := 2) dX5_weigh_110 rfl rfl rfl ?_
      refine mw_iload (n := 113) (q := 3) dX5_weigh_111 rfl rfl ?_
      refine mw_iand (n := 114) dX5_weigh_113 rfl ?_
      refine mw_if_ne (n := 117) (t := 127) dX5_weigh_114 rfl (by decide) Iff.rfl (fun c2 => ?_) (fun c2 => ?_)
      · refine mw_iconst (n := 128) (v := 0) dX5_weigh_127 rfl (by decide) ?_
        exact b_X5_weigh_128 hg N v2 v3 v4 (0 : Int32) (mgi h 73 (v3).toNatClampNeg) v3 self89 hself89 self97 hself97 h
      · refine mw_aload_n (n := 118) (q := 0) dX5_weigh_117 rfl rfl rfl ?_
        refine mw_getr (n := 121) (a := 70) (k := 1) cl5 (mkl hg (by decide) (by rfl)) (by decide) rfl rfl fl_X5_15 dX5_weigh_118 rfl ?_
        refine mw_iload (n := 123) (q := 3) dX5_weigh_121 rfl rfl ?_
        refine mw_iald (n := 124) (a := 72) (N := 64) (mkl hg (by decide) (by rfl)) dX5_weigh_123 rfl ?_
        refine mw_goto (n := 128) dX5_weigh_124 (by decide) ?_
        exact b_X5_weigh_128 hg N v2 v3 v4 (mgi h 72 (v4).toNatClampNeg) (mgi h 73 (v3).toNatClampNeg) v3 self89 hself89 self97 hself97 h
noncomputable def x_X5_weigh_89 (N : Nat) (v2 : Int32) (f : Nat) : Int32 → mH → Option (mH) :=
  Nat.rec (motive := fun _ => Int32 → mH → Option (mH)) (fun _ _ => none) (fun _ self89 => fun v3 h => 
    if v2 ≤ v3 then
      some h
    else
      x_X5_weigh_97 N self89 v2 v3 N (0 : Int32) h) f
theorem x_X5_weigh_89_0 (N : Nat) (v2 : Int32) (v3 : Int32) (h : mH) : x_X5_weigh_89 N v2 0 v3 h = none := rfl
theorem x_X5_weigh_89_s (N : Nat) (v2 : Int32) (f : Nat) (v3 : Int32) (h : mH) : x_X5_weigh_89 N v2 (f + 1) v3 h = (
    if v2 ≤ v3 then
      some h
    else
      x_X5_weigh_97 N (x_X5_weigh_89 N v2 f) v2 v3 N (0 : Int32) h) := rfl
set_option maxRecDepth 20000 in
set_option maxHeartbeats 4000000 in
theorem b_X5_weigh_89 {g : mG} {l : Launch} (hg : mOK g) (N : Nat) (v2 : Int32) (f : Nat) : ∀ (v3 : Int32) (h : mH), mw g l 3 mX5_weigh (fun r : mH => ((none : Option Value), r)) 89 [(0, .ref (mad g 70)), (2, .int v2), (3, .int v3)] [] h (x_X5_weigh_89 N v2 f v3 h) := by
  induction f with
  | zero => intros; exact mw_none
  | succ f hself89 =>
    intro v3 h
    refine mw_eq (x_X5_weigh_89_s N v2 f v3 h) ?_
    generalize x_X5_weigh_89 N v2 f = self89 at hself89 ⊢
    refine mw_iload_n (n := 90) (q := 2) dX5_weigh_89 rfl rfl rfl ?_
    refine mw_iload_n (n := 91) (q := 1) dX5_weigh_90 rfl rfl rfl ?_
    refine mw_icmp_ge (n := 94) (t := 142) dX5_weigh_91 rfl (by decide) Iff.rfl (fun c1 => ?_) (fun c1 => ?_)
    · exact mw_vret dX5_weigh_142 rfl rfl
    · refine mw_iconst (n := 95) (v := 0) dX5_weigh_94 rfl (by decide) ?_
      refine mw_istore (n := 97) dX5_weigh_95 rfl (by decide) rfl ?_
      refine mw_sub [1, 2, 3, 0] rfl ?_
      exact b_X5_weigh_97 hg N v2 v3 self89 hself89 N (0 : Int32) h
noncomputable def x_X5_weigh_44 (N : Nat) (r1 : Nat) (v2 : Int32) (f : Nat) : Int32 → mH → Option (mH) :=
  Nat.rec (motive := fun _ => Int32 → mH → Option (mH)) (fun _ _ => none) (fun _ self44 => fun v3 h => 
    if (mgi h (r1 + 4) 1) ≤ v3 then
      x_X5_weigh_89 N v2 N (0 : Int32) h
    else
      mck v3 310 <|
      (x_X5_brokenBy N (r1 + 1) (mgi h ((r1 + 4) + 1) (v3).toNatClampNeg) h).bind fun q2 =>
      mck q2 64 <|
      mck q2 64 <|
      mlet (msi h 72 (q2).toNatClampNeg ((mgi h 72 (q2).toNatClampNeg) + (1 : Int32))) fun h3 =>
      self44 (v3 + (1 : Int32)) h3) f
theorem x_X5_weigh_44_0 (N : Nat) (r1 : Nat) (v2 : Int32) (v3 : Int32) (h : mH) : x_X5_weigh_44 N r1 v2 0 v3 h = none := rfl
theorem x_X5_weigh_44_s (N : Nat) (r1 : Nat) (v2 : Int32) (f : Nat) (v3 : Int32) (h : mH) : x_X5_weigh_44 N r1 v2 (f + 1) v3 h = (
    if (mgi h (r1 + 4) 1) ≤ v3 then
      x_X5_weigh_89 N v2 N (0 : Int32) h
    else
      mck v3 310 <|
      (x_X5_brokenBy N (r1 + 1) (mgi h ((r1 + 4) + 1) (v3).toNatClampNeg) h).bind fun q2 =>
      mck q2 64 <|
      mck q2 64 <|
      mlet (msi h 72 (q2).toNatClampNeg ((mgi h 72 (q2).toNatClampNeg) + (1 : Int32))) fun h3 =>
      (x_X5_weigh_44 N r1 v2 f) (v3 + (1 : Int32)) h3) := rfl
set_option maxRecDepth 20000 in
set_option maxHeartbeats 4000000 in
theorem b_X5_weigh_44 {g : mG} {l : Launch} (hg : mOK g) (N : Nat) (r1 : Nat) (v2 : Int32) (hr1 : mkn g r1 2) (f : Nat) : ∀ (v3 : Int32) (h : mH), mw g l 3 mX5_weigh (fun r : mH => ((none : Option Value), r)) 44 [(0, .ref (mad g 70)), (1, .ref (mad g r1)), (2, .int v2), (3, .int v3)] [] h (x_X5_weigh_44 N r1 v2 f v3 h) := by
  induction f with
  | zero => intros; exact mw_none
  | succ f hself44 =>
    intro v3 h
    refine mw_eq (x_X5_weigh_44_s N r1 v2 f v3 h) ?_
    generalize x_X5_weigh_44 N r1 v2 f = self44 at hself44 ⊢
    refine mw_iload_n (n := 45) (q := 3) dX5_weigh_44 rfl rfl rfl ?_
    refine mw_aload_n (n := 46) (q := 1) dX5_weigh_45 rfl rfl rfl ?_
    refine mw_getr (n := 49) (a := r1) (k := 1) cl2 hr1 (by decide) rfl rfl fl_X5_35 dX5_weigh_46 rfl ?_
    refine mw_geti (n := 52) (a := (r1 + 4)) (k := 1) cl1 (mk2_4 hg hr1) (by decide) rfl rfl fl_X5_39 dX5_weigh_49 rfl ?_
    refine mw_icmp_ge (n := 55) (t := 87) dX5_weigh_52 rfl (by decide) Iff.rfl (fun c1 => ?_) (fun c1 => ?_)
    · refine mw_iconst (n := 88) (v := 0) dX5_weigh_87 rfl (by decide) ?_
      refine mw_istore_n (n := 89) dX5_weigh_88 rfl rfl (by decide) rfl ?_
      refine mw_sub [1, 3, 0] rfl ?_
      exact b_X5_weigh_89 hg N v2 N (0 : Int32) h
    · refine mw_aload_n (n := 56) (q := 0) dX5_weigh_55 rfl rfl rfl ?_
      refine mw_getr (n := 59) (a := 70) (k := 1) cl5 (mkl hg (by decide) (by rfl)) (by decide) rfl rfl fl_X5_15 dX5_weigh_56 rfl ?_
      refine mw_aload_n (n := 60) (q := 0) dX5_weigh_59 rfl rfl rfl ?_
      refine mw_aload_n (n := 61) (q := 1) dX5_weigh_60 rfl rfl rfl ?_
      refine mw_getr (n := 64) (a := r1) (k := 0) cl2 hr1 (by decide) rfl rfl fl_X5_21 dX5_weigh_61 rfl ?_
      refine mw_aload_n (n := 65) (q := 1) dX5_weigh_64 rfl rfl rfl ?_
      refine mw_getr (n := 68) (a := r1) (k := 1) cl2 hr1 (by decide) rfl rfl fl_X5_35 dX5_weigh_65 rfl ?_
      refine mw_getr (n := 71) (a := (r1 + 4)) (k := 0) cl1 (mk2_4 hg hr1) (by decide) rfl rfl fl_X5_44 dX5_weigh_68 rfl ?_
      refine mw_iload_n (n := 72) (q := 3) dX5_weigh_71 rfl rfl rfl ?_
      refine mw_iald (n := 73) (a := ((r1 + 4) + 1)) (N := 310) (mk1_1 hg (mk2_4 hg hr1)) dX5_weigh_72 rfl ?_
      refine mw_callV (n := 76) (a := 70) (As := [.ref (mad g (r1 + 1)), .int (mgi h ((r1 + 4) + 1) (v3).toNatClampNeg)]) cl5 (mkl hg (by decide) (by rfl)) (t_X5_brokenBy hg N (r1 + 1) (mgi h ((r1 + 4) + 1) (v3).toNatClampNeg) (mk2_1 hg hr1) h) (by decide) ok_X5_brokenBy rfl rfl lk_X5_47 im_X5_brokenBy se_X5_brokenBy dX5_weigh_73 rfl rfl (Nat.le_of_ble_eq_true rfl) (fun q2 _ => ?_)
      show mw g l _ _ _ 76 _ [.int q2, .ref (mad g 72)] h _
      refine mw_dup2 (n := 77) dX5_weigh_76 rfl rfl rfl ?_
      refine mw_iald (n := 78) (a := 72) (N := 64) (mkl hg (by decide) (by rfl)) dX5_weigh_77 rfl ?_
      refine mw_iconst (n := 79) (v := 1) dX5_weigh_78 rfl (by decide) ?_
      refine mw_iadd (n := 80) dX5_weigh_79 rfl ?_
      refine mw_iast (n := 81) (a := 72) (N := 64) (mkl hg (by decide) (by rfl)) dX5_weigh_80 rfl (mw_leth (fun h3 => ?_))
      refine mw_iinc (n := 84) (q := 3) (v := (v3 + (1 : Int32))) dX5_weigh_81 rfl rfl rfl (by decide) rfl ?_
      refine mw_goto (n := 44) dX5_weigh_84 (by decide) ?_
      refine mw_sub [1, 2, 3, 0] rfl ?_
      exact hself44 (v3 + (1 : Int32)) h3
noncomputable def x_X5_weigh_17 (N : Nat) (r1 : Nat) (v2 : Int32) (f : Nat) : Int32 → mH → Option (mH) :=
  Nat.rec (motive := fun _ => Int32 → mH → Option (mH)) (fun _ _ => none) (fun _ self17 => fun v3 h => 
    if v2 ≤ v3 then
      x_X5_weigh_44 N r1 v2 N (0 : Int32) h
    else
      mck v3 64 <|
      mlet (msi h 72 (v3).toNatClampNeg (0 : Int32)) fun h2 =>
      mck v3 64 <|
      mlet (msi h2 73 (v3).toNatClampNeg (0 : Int32)) fun h3 =>
      self17 (v3 + (1 : Int32)) h3) f
theorem x_X5_weigh_17_0 (N : Nat) (r1 : Nat) (v2 : Int32) (v3 : Int32) (h : mH) : x_X5_weigh_17 N r1 v2 0 v3 h = none := rfl
theorem x_X5_weigh_17_s (N : Nat) (r1 : Nat) (v2 : Int32) (f : Nat) (v3 : Int32) (h : mH) : x_X5_weigh_17 N r1 v2 (f + 1) v3 h = (
    if v2 ≤ v3 then
      x_X5_weigh_44 N r1 v2 N (0 : Int32) h
    else
      mck v3 64 <|
      mlet (msi h 72 (v3).toNatClampNeg (0 : Int32)) fun h2 =>
      mck v3 64 <|
      mlet (msi h2 73 (v3).toNatClampNeg (0 : Int32)) fun h3 =>
      (x_X5_weigh_17 N r1 v2 f) (v3 + (1 : Int32)) h3) := rfl
set_option maxRecDepth 20000 in
set_option maxHeartbeats 4000000 in
theorem b_X5_weigh_17 {g : mG} {l : Launch} (hg : mOK g) (N : Nat) (r1 : Nat) (v2 : Int32) (hr1 : mkn g r1 2) (f : Nat) : ∀ (v3 : Int32) (h : mH), mw g l 3 mX5_weigh (fun r : mH => ((none : Option Value), r)) 17 [(0, .ref (mad g 70)), (1, .ref (mad g r1)), (2, .int v2), (3, .int v3)] [] h (x_X5_weigh_17 N r1 v2 f v3 h) := by
  induction f with
  | zero => intros; exact mw_none
  | succ f hself17 =>
    intro v3 h
    refine mw_eq (x_X5_weigh_17_s N r1 v2 f v3 h) ?_
    generalize x_X5_weigh_17 N r1 v2 f = self17 at hself17 ⊢
    refine mw_iload_n (n := 18) (q := 3) dX5_weigh_17 rfl rfl rfl ?_
    refine mw_iload_n (n := 19) (q := 2) dX5_weigh_18 rfl rfl rfl ?_
    refine mw_icmp_ge (n := 22) (t := 42) dX5_weigh_19 rfl (by decide) Iff.rfl (fun c1 => ?_) (fun c1 => ?_)
    · refine mw_iconst (n := 43) (v := 0) dX5_weigh_42 rfl (by decide) ?_
      refine mw_istore_n (n := 44) dX5_weigh_43 rfl rfl (by decide) rfl ?_
      refine mw_sub [1, 2, 3, 0] rfl ?_
      exact b_X5_weigh_44 hg N r1 v2 hr1 N (0 : Int32) h
    · refine mw_aload_n (n := 23) (q := 0) dX5_weigh_22 rfl rfl rfl ?_
      refine mw_getr (n := 26) (a := 70) (k := 1) cl5 (mkl hg (by decide) (by rfl)) (by decide) rfl rfl fl_X5_15 dX5_weigh_23 rfl ?_
      refine mw_iload_n (n := 27) (q := 3) dX5_weigh_26 rfl rfl rfl ?_
      refine mw_iconst (n := 28) (v := 0) dX5_weigh_27 rfl (by decide) ?_
      refine mw_iast (n := 29) (a := 72) (N := 64) (mkl hg (by decide) (by rfl)) dX5_weigh_28 rfl (mw_leth (fun h2 => ?_))
      refine mw_aload_n (n := 30) (q := 0) dX5_weigh_29 rfl rfl rfl ?_
      refine mw_getr (n := 33) (a := 70) (k := 2) cl5 (mkl hg (by decide) (by rfl)) (by decide) rfl rfl fl_X5_18 dX5_weigh_30 rfl ?_
      refine mw_iload_n (n := 34) (q := 3) dX5_weigh_33 rfl rfl rfl ?_
      refine mw_iconst (n := 35) (v := 0) dX5_weigh_34 rfl (by decide) ?_
      refine mw_iast (n := 36) (a := 73) (N := 64) (mkl hg (by decide) (by rfl)) dX5_weigh_35 rfl (mw_leth (fun h3 => ?_))
      refine mw_iinc (n := 39) (q := 3) (v := (v3 + (1 : Int32))) dX5_weigh_36 rfl rfl rfl (by decide) rfl ?_
      refine mw_goto (n := 17) dX5_weigh_39 (by decide) ?_
      refine mw_sub [1, 2, 3, 0] rfl ?_
      exact hself17 (v3 + (1 : Int32)) h3
noncomputable def x_X5_weigh (N : Nat) (p0 : Nat) (h : mH) : Option (mH) :=
  (x_X5_listPins N (p0 + 1) h).bind fun q1 =>
  mlet ((1 : Int32) <<< ((mgi q1 70 3) &&& 31)) fun u2 =>
  x_X5_weigh_17 N p0 u2 N (0 : Int32) q1
set_option maxRecDepth 20000 in
set_option maxHeartbeats 4000000 in
theorem t_X5_weigh {g : mG} {l : Launch} (hg : mOK g) (N : Nat) (p0 : Nat) (hp0 : mkn g p0 2) (h : mH) : mf g l 3 mX5_weigh (fun r : mH => ((none : Option Value), r)) [.ref (mad g 70), .ref (mad g p0)] h (x_X5_weigh N p0 h) := by
  refine mf_of (by decide) (Nat.le_of_ble_eq_true rfl) ?_
  show mw g l 3 mX5_weigh (fun r : mH => ((none : Option Value), r)) 0 [(0, .ref (mad g 70)), (1, .ref (mad g p0))] [] h _
  unfold x_X5_weigh
  refine mw_aload_n (n := 1) (q := 0) dX5_weigh_0 rfl rfl rfl ?_
  refine mw_aload_n (n := 2) (q := 1) dX5_weigh_1 rfl rfl rfl ?_
  refine mw_getr (n := 5) (a := p0) (k := 0) cl2 hp0 (by decide) rfl rfl fl_X5_21 dX5_weigh_2 rfl ?_
  refine mw_callV (n := 8) (a := 70) (As := [.ref (mad g (p0 + 1))]) cl5 (mkl hg (by decide) (by rfl)) (t_X5_listPins hg N (p0 + 1) (mk2_1 hg hp0) h) (by decide) ok_X5_listPins rfl rfl lk_X5_27 im_X5_listPins se_X5_listPins dX5_weigh_5 rfl rfl (Nat.le_of_ble_eq_true rfl) (fun q1 _ => ?_)
  show mw g l _ _ _ 8 _ [] q1 _
  refine mw_iconst (n := 9) (v := 1) dX5_weigh_8 rfl (by decide) ?_
  refine mw_aload_n (n := 10) (q := 0) dX5_weigh_9 rfl rfl rfl ?_
  refine mw_geti (n := 13) (a := 70) (k := 3) cl5 (mkl hg (by decide) (by rfl)) (by decide) rfl rfl fl_X5_31 dX5_weigh_10 rfl ?_
  refine mw_ishl (n := 14) dX5_weigh_13 rfl ?_
  refine mw_letI (fun u2 => ?_)
  refine mw_istore_n (n := 15) dX5_weigh_14 rfl rfl (by decide) rfl ?_
  refine mw_iconst (n := 16) (v := 0) dX5_weigh_15 rfl (by decide) ?_
  refine mw_istore_n (n := 17) dX5_weigh_16 rfl rfl (by decide) rfl ?_
  refine mw_sub [2, 3, 1, 0] rfl ?_
  exact b_X5_weigh_17 hg N p0 u2 hp0 N (0 : Int32) q1
noncomputable def x_X5_orders_4 (N : Nat) (v1 : Int32) (f : Nat) : Int32 → Int32 → Option (Int32) :=
  Nat.rec (motive := fun _ => Int32 → Int32 → Option (Int32)) (fun _ _ => none) (fun _ self4 => fun v2 v3 => 
    if v1 < v3 then
      some v2
    else
      mlet (v2 * v3) fun u2 =>
      self4 u2 (v3 + (1 : Int32))) f
theorem x_X5_orders_4_0 (N : Nat) (v1 : Int32) (v2 : Int32) (v3 : Int32) : x_X5_orders_4 N v1 0 v2 v3 = none := rfl
theorem x_X5_orders_4_s (N : Nat) (v1 : Int32) (f : Nat) (v2 : Int32) (v3 : Int32) : x_X5_orders_4 N v1 (f + 1) v2 v3 = (
    if v1 < v3 then
      some v2
    else
      mlet (v2 * v3) fun u2 =>
      (x_X5_orders_4 N v1 f) u2 (v3 + (1 : Int32))) := rfl
set_option maxRecDepth 20000 in
set_option maxHeartbeats 4000000 in
theorem b_X5_orders_4 {g : mG} {l : Launch} (hg : mOK g) (N : Nat) (v1 : Int32) (h : mH) (f : Nat) : ∀ (v2 : Int32) (v3 : Int32), mw g l 0 mX5_orders (fun r : Int32 => (some (Value.int r), h)) 4 [(1, .int v1), (2, .int v2), (3, .int v3)] [] h (x_X5_orders_4 N v1 f v2 v3) := by
  induction f with
  | zero => intros; exact mw_none
  | succ f hself4 =>
    intro v2 v3
    refine mw_eq (x_X5_orders_4_s N v1 f v2 v3) ?_
    generalize x_X5_orders_4 N v1 f = self4 at hself4 ⊢
    refine mw_iload_n (n := 5) (q := 2) dX5_orders_4 rfl rfl rfl ?_
    refine mw_iload_n (n := 6) (q := 0) dX5_orders_5 rfl rfl rfl ?_
    refine mw_icmp_gt (n := 9) (t := 19) dX5_orders_6 rfl (by decide) Iff.rfl (fun c1 => ?_) (fun c1 => ?_)
    · refine mw_iload_n (n := 20) (q := 1) dX5_orders_19 rfl rfl rfl ?_
      exact mw_iret dX5_orders_20 rfl rfl
    · refine mw_iload_n (n := 10) (q := 1) dX5_orders_9 rfl rfl rfl ?_
      refine mw_iload_n (n := 11) (q := 2) dX5_orders_10 rfl rfl rfl ?_
      refine mw_imul (n := 12) dX5_orders_11 rfl ?_
      refine mw_letI (fun u2 => ?_)
      refine mw_istore_n (n := 13) dX5_orders_12 rfl rfl (by decide) rfl ?_
      refine mw_iinc (n := 16) (q := 2) (v := (v3 + (1 : Int32))) dX5_orders_13 rfl rfl rfl (by decide) rfl ?_
      refine mw_goto (n := 4) dX5_orders_16 (by decide) ?_
      refine mw_sub [2, 1, 0] rfl ?_
      exact hself4 u2 (v3 + (1 : Int32))
noncomputable def x_X5_orders (N : Nat) (p0 : Int32) : Option (Int32) :=
  x_X5_orders_4 N p0 N (1 : Int32) (2 : Int32)
set_option maxRecDepth 20000 in
set_option maxHeartbeats 4000000 in
theorem t_X5_orders {g : mG} {l : Launch} (hg : mOK g) (N : Nat) (p0 : Int32) (h : mH) : mf g l 0 mX5_orders (fun r : Int32 => (some (Value.int r), h)) [.ref (mad g 70), .int p0] h (x_X5_orders N p0) := by
  refine mf_of (by decide) (Nat.le_of_ble_eq_true rfl) ?_
  show mw g l 0 mX5_orders (fun r : Int32 => (some (Value.int r), h)) 0 [(0, .ref (mad g 70)), (1, .int p0)] [] h _
  unfold x_X5_orders
  refine mw_iconst (n := 1) (v := 1) dX5_orders_0 rfl (by decide) ?_
  refine mw_istore_n (n := 2) dX5_orders_1 rfl rfl (by decide) rfl ?_
  refine mw_iconst (n := 3) (v := 2) dX5_orders_2 rfl (by decide) ?_
  refine mw_istore_n (n := 4) dX5_orders_3 rfl rfl (by decide) rfl ?_
  refine mw_sub [3, 1, 0] rfl ?_
  exact b_X5_orders_4 hg N p0 h N (1 : Int32) (2 : Int32)
noncomputable def x_X5_fewerInAllOrders_113 (N : Nat) (self43 : Int32 → Int32 → Option (Int32)) (v2 : Int32) (v3 : Int32) (v4 : Int32) (h : mH) : Option (Int32) :=
  self43 v3 (v4 + (1 : Int32))
set_option maxRecDepth 20000 in
set_option maxHeartbeats 4000000 in
theorem b_X5_fewerInAllOrders_113 {g : mG} {l : Launch} (hg : mOK g) (N : Nat) (v2 : Int32) (v3 : Int32) (v4 : Int32) (h : mH) (self43 : Int32 → Int32 → Option (Int32)) (hself43 : ∀ (v3 : Int32) (v4 : Int32), mw g l 1 mX5_fewerInAllOrders (fun r : Int32 => (some (Value.int r), h)) 43 [(0, .ref (mad g 70)), (2, .int v2), (3, .int v3), (4, .int v4)] [] h (self43 v3 v4)) : mw g l 1 mX5_fewerInAllOrders (fun r : Int32 => (some (Value.int r), h)) 113 [(0, .ref (mad g 70)), (2, .int v2), (3, .int v3), (4, .int v4)] [] h (x_X5_fewerInAllOrders_113 N self43 v2 v3 v4 h) := by
  unfold x_X5_fewerInAllOrders_113
  refine mw_iinc (n := 116) (q := 3) (v := (v4 + (1 : Int32))) dX5_fewerInAllOrders_113 rfl rfl rfl (by decide) rfl ?_
  refine mw_goto (n := 43) dX5_fewerInAllOrders_116 (by decide) ?_
  refine mw_sub [1, 2, 3, 0] rfl ?_
  exact hself43 v3 (v4 + (1 : Int32))
noncomputable def x_X5_fewerInAllOrders_43 (N : Nat) (v2 : Int32) (h : mH) (f : Nat) : Int32 → Int32 → Option (Int32) :=
  Nat.rec (motive := fun _ => Int32 → Int32 → Option (Int32)) (fun _ _ => none) (fun _ self43 => fun v3 v4 => 
    if ((1 : Int32) <<< ((mgi h 70 3) &&& 31)) ≤ v4 then
      some v3
    else
      if ¬ (v4 &&& v2) = 0 then
        x_X5_fewerInAllOrders_113 N self43 v2 v3 v4 h
      else
        (x_J6_bitCount_0f7a4 v4).bind fun q3 =>
        (x_X5_orders N q3).bind fun q4 =>
        (x_X5_orders N (((mgi h 70 3) - (1 : Int32)) - q3)).bind fun q5 =>
        mlet (q4 * q5) fun u6 =>
        mck v4 64 <|
        mck (v4 ||| v2) 64 <|
        mlet (v3 + (u6 * ((mgi h 73 (v4).toNatClampNeg) - (mgi h 73 ((v4 ||| v2)).toNatClampNeg)))) fun u7 =>
        x_X5_fewerInAllOrders_113 N self43 v2 u7 v4 h) f
theorem x_X5_fewerInAllOrders_43_0 (N : Nat) (v2 : Int32) (h : mH) (v3 : Int32) (v4 : Int32) : x_X5_fewerInAllOrders_43 N v2 h 0 v3 v4 = none := rfl
theorem x_X5_fewerInAllOrders_43_s (N : Nat) (v2 : Int32) (h : mH) (f : Nat) (v3 : Int32) (v4 : Int32) : x_X5_fewerInAllOrders_43 N v2 h (f + 1) v3 v4 = (
    if ((1 : Int32) <<< ((mgi h 70 3) &&& 31)) ≤ v4 then
      some v3
    else
      if ¬ (v4 &&& v2) = 0 then
        x_X5_fewerInAllOrders_113 N (x_X5_fewerInAllOrders_43 N v2 h f) v2 v3 v4 h
      else
        (x_J6_bitCount_0f7a4 v4).bind fun q3 =>
        (x_X5_orders N q3).bind fun q4 =>
        (x_X5_orders N (((mgi h 70 3) - (1 : Int32)) - q3)).bind fun q5 =>
        mlet (q4 * q5) fun u6 =>
        mck v4 64 <|
        mck (v4 ||| v2) 64 <|
        mlet (v3 + (u6 * ((mgi h 73 (v4).toNatClampNeg) - (mgi h 73 ((v4 ||| v2)).toNatClampNeg)))) fun u7 =>
        x_X5_fewerInAllOrders_113 N (x_X5_fewerInAllOrders_43 N v2 h f) v2 u7 v4 h) := rfl
set_option maxRecDepth 20000 in
set_option maxHeartbeats 4000000 in
theorem b_X5_fewerInAllOrders_43 {g : mG} {l : Launch} (hg : mOK g) (N : Nat) (v2 : Int32) (h : mH) (f : Nat) : ∀ (v3 : Int32) (v4 : Int32), mw g l 1 mX5_fewerInAllOrders (fun r : Int32 => (some (Value.int r), h)) 43 [(0, .ref (mad g 70)), (2, .int v2), (3, .int v3), (4, .int v4)] [] h (x_X5_fewerInAllOrders_43 N v2 h f v3 v4) := by
  induction f with
  | zero => intros; exact mw_none
  | succ f hself43 =>
    intro v3 v4
    refine mw_eq (x_X5_fewerInAllOrders_43_s N v2 h f v3 v4) ?_
    generalize x_X5_fewerInAllOrders_43 N v2 h f = self43 at hself43 ⊢
    refine mw_iload (n := 45) (q := 3) dX5_fewerInAllOrders_43 rfl rfl ?_
    refine mw_iconst (n := 46) (v := 1) dX5_fewerInAllOrders_45 rfl (by decide) ?_
    refine mw_aload_n (n := 47) (q := 0) dX5_fewerInAllOrders_46 rfl rfl rfl ?_
    refine mw_geti (n := 50) (a := 70) (k := 3) cl5 (mkl hg (by decide) (by rfl)) (by decide) rfl rfl fl_X5_31 dX5_fewerInAllOrders_47 rfl ?_
    refine mw_ishl (n := 51) dX5_fewerInAllOrders_50 rfl ?_
    refine mw_icmp_ge (n := 54) (t := 119) dX5_fewerInAllOrders_51 rfl (by decide) Iff.rfl (fun c1 => ?_) (fun c1 => ?_)
    · refine mw_iload_n (n := 120) (q := 2) dX5_fewerInAllOrders_119 rfl rfl rfl ?_
      exact mw_iret dX5_fewerInAllOrders_120 rfl rfl
    · refine mw_iload (n := 56) (q := 3) dX5_fewerInAllOrders_54 rfl rfl ?_
      refine mw_iload_n (n := 57) (q := 1) dX5_fewerInAllOrders_56 rfl rfl rfl ?_
      refine mw_iand (n := 58) dX5_fewerInAllOrders_57 rfl ?_
      refine mw_if_ne (n := 61) (t := 113) dX5_fewerInAllOrders_58 rfl (by decide) Iff.rfl (fun c2 => ?_) (fun c2 => ?_)
      · exact b_X5_fewerInAllOrders_113 hg N v2 v3 v4 h self43 hself43
      · refine mw_iload (n := 63) (q := 3) dX5_fewerInAllOrders_61 rfl rfl ?_
        refine mw_callS (n := 66) (As := [.int v4]) (t_J6_bitCount_0f7a4 v4 h) (by decide) ok_J6_bitCount_0f7a4 rfl lk_X5_70 sm_J6_bitCount_0f7a4 dX5_fewerInAllOrders_63 rfl rfl (Nat.le_of_ble_eq_true rfl) (fun q3 _ => ?_)
        show mw g l _ _ _ 66 _ [.int q3] h _
        refine mw_istore (n := 68) dX5_fewerInAllOrders_66 rfl (by decide) rfl ?_
        refine mw_aload_n (n := 69) (q := 1) dX5_fewerInAllOrders_68 rfl rfl rfl ?_
        refine mw_iload (n := 71) (q := 0) dX5_fewerInAllOrders_69 rfl rfl ?_
        refine mw_callV (n := 74) (a := 70) (As := [.int q3]) cl5 (mkl hg (by decide) (by rfl)) (t_X5_orders hg N q3 h) (by decide) ok_X5_orders rfl rfl lk_X5_75 im_X5_orders se_X5_orders dX5_fewerInAllOrders_71 rfl rfl (Nat.le_of_ble_eq_true rfl) (fun q4 _ => ?_)
        show mw g l _ _ _ 74 _ [.int q4] h _
        refine mw_aload_n (n := 75) (q := 1) dX5_fewerInAllOrders_74 rfl rfl rfl ?_
        refine mw_aload_n (n := 76) (q := 1) dX5_fewerInAllOrders_75 rfl rfl rfl ?_
        refine mw_geti (n := 79) (a := 70) (k := 3) cl5 (mkl hg (by decide) (by rfl)) (by decide) rfl rfl fl_X5_31 dX5_fewerInAllOrders_76 rfl ?_
        refine mw_iconst (n := 80) (v := 1) dX5_fewerInAllOrders_79 rfl (by decide) ?_
        refine mw_isub (n := 81) dX5_fewerInAllOrders_80 rfl ?_
        refine mw_iload (n := 83) (q := 0) dX5_fewerInAllOrders_81 rfl rfl ?_
        refine mw_isub (n := 84) dX5_fewerInAllOrders_83 rfl ?_
        refine mw_callV (n := 87) (a := 70) (As := [.int (((mgi h 70 3) - (1 : Int32)) - q3)]) cl5 (mkl hg (by decide) (by rfl)) (t_X5_orders hg N (((mgi h 70 3) - (1 : Int32)) - q3) h) (by decide) ok_X5_orders rfl rfl lk_X5_75 im_X5_orders se_X5_orders dX5_fewerInAllOrders_84 rfl rfl (Nat.le_of_ble_eq_true rfl) (fun q5 _ => ?_)
        show mw g l _ _ _ 87 _ [.int q5, .int q4] h _
        refine mw_imul (n := 88) dX5_fewerInAllOrders_87 rfl ?_
        refine mw_letI (fun u6 => ?_)
        refine mw_istore (n := 90) dX5_fewerInAllOrders_88 rfl (by decide) rfl ?_
        refine mw_iload_n (n := 91) (q := 4) dX5_fewerInAllOrders_90 rfl rfl rfl ?_
        refine mw_iload (n := 93) (q := 0) dX5_fewerInAllOrders_91 rfl rfl ?_
        refine mw_aload_n (n := 94) (q := 2) dX5_fewerInAllOrders_93 rfl rfl rfl ?_
        refine mw_getr (n := 97) (a := 70) (k := 2) cl5 (mkl hg (by decide) (by rfl)) (by decide) rfl rfl fl_X5_18 dX5_fewerInAllOrders_94 rfl ?_
        refine mw_iload (n := 99) (q := 5) dX5_fewerInAllOrders_97 rfl rfl ?_
        refine mw_iald (n := 100) (a := 73) (N := 64) (mkl hg (by decide) (by rfl)) dX5_fewerInAllOrders_99 rfl ?_
        refine mw_aload_n (n := 101) (q := 2) dX5_fewerInAllOrders_100 rfl rfl rfl ?_
        refine mw_getr (n := 104) (a := 70) (k := 2) cl5 (mkl hg (by decide) (by rfl)) (by decide) rfl rfl fl_X5_18 dX5_fewerInAllOrders_101 rfl ?_
        refine mw_iload (n := 106) (q := 5) dX5_fewerInAllOrders_104 rfl rfl ?_
        refine mw_iload_n (n := 107) (q := 3) dX5_fewerInAllOrders_106 rfl rfl rfl ?_
        refine mw_ior (n := 108) dX5_fewerInAllOrders_107 rfl ?_
        refine mw_iald (n := 109) (a := 73) (N := 64) (mkl hg (by decide) (by rfl)) dX5_fewerInAllOrders_108 rfl ?_
        refine mw_isub (n := 110) dX5_fewerInAllOrders_109 rfl ?_
        refine mw_imul (n := 111) dX5_fewerInAllOrders_110 rfl ?_
        refine mw_iadd (n := 112) dX5_fewerInAllOrders_111 rfl ?_
        refine mw_letI (fun u7 => ?_)
        refine mw_istore_n (n := 113) dX5_fewerInAllOrders_112 rfl rfl (by decide) rfl ?_
        refine mw_sub [3, 4, 0, 5] rfl ?_
        exact b_X5_fewerInAllOrders_113 hg N v2 u7 v4 h self43 hself43
noncomputable def x_X5_fewerInAllOrders_4 (N : Nat) (v1 : Int32) (h : mH) (f : Nat) : Int32 → Int32 → Option (Int32) :=
  Nat.rec (motive := fun _ => Int32 → Int32 → Option (Int32)) (fun _ _ => none) (fun _ self4 => fun v2 v3 => 
    if (mgi h 70 3) ≤ v3 then
      x_X5_fewerInAllOrders_43 N v2 h N (0 : Int32) (0 : Int32)
    else
      mck v3 6 <|
      mlet (v2 ||| (if ¬ (mgi h 71 (v3).toNatClampNeg) = v1 then (0 : Int32) else ((1 : Int32) <<< (v3 &&& 31)))) fun u3 =>
      self4 u3 (v3 + (1 : Int32))) f
theorem x_X5_fewerInAllOrders_4_0 (N : Nat) (v1 : Int32) (h : mH) (v2 : Int32) (v3 : Int32) : x_X5_fewerInAllOrders_4 N v1 h 0 v2 v3 = none := rfl
theorem x_X5_fewerInAllOrders_4_s (N : Nat) (v1 : Int32) (h : mH) (f : Nat) (v2 : Int32) (v3 : Int32) : x_X5_fewerInAllOrders_4 N v1 h (f + 1) v2 v3 = (
    if (mgi h 70 3) ≤ v3 then
      x_X5_fewerInAllOrders_43 N v2 h N (0 : Int32) (0 : Int32)
    else
      mck v3 6 <|
      mlet (v2 ||| (if ¬ (mgi h 71 (v3).toNatClampNeg) = v1 then (0 : Int32) else ((1 : Int32) <<< (v3 &&& 31)))) fun u3 =>
      (x_X5_fewerInAllOrders_4 N v1 h f) u3 (v3 + (1 : Int32))) := rfl
set_option maxRecDepth 20000 in
set_option maxHeartbeats 4000000 in
theorem b_X5_fewerInAllOrders_4 {g : mG} {l : Launch} (hg : mOK g) (N : Nat) (v1 : Int32) (h : mH) (f : Nat) : ∀ (v2 : Int32) (v3 : Int32), mw g l 1 mX5_fewerInAllOrders (fun r : Int32 => (some (Value.int r), h)) 4 [(0, .ref (mad g 70)), (1, .int v1), (2, .int v2), (3, .int v3)] [] h (x_X5_fewerInAllOrders_4 N v1 h f v2 v3) := by
  induction f with
  | zero => intros; exact mw_none
  | succ f hself4 =>
    intro v2 v3
    refine mw_eq (x_X5_fewerInAllOrders_4_s N v1 h f v2 v3) ?_
    generalize x_X5_fewerInAllOrders_4 N v1 h f = self4 at hself4 ⊢
    refine mw_iload_n (n := 5) (q := 3) dX5_fewerInAllOrders_4 rfl rfl rfl ?_
    refine mw_aload_n (n := 6) (q := 0) dX5_fewerInAllOrders_5 rfl rfl rfl ?_
    refine mw_geti (n := 9) (a := 70) (k := 3) cl5 (mkl hg (by decide) (by rfl)) (by decide) rfl rfl fl_X5_31 dX5_fewerInAllOrders_6 rfl ?_
    refine mw_icmp_ge (n := 12) (t := 38) dX5_fewerInAllOrders_9 rfl (by decide) Iff.rfl (fun c1 => ?_) (fun c1 => ?_)
    · refine mw_iconst (n := 39) (v := 0) dX5_fewerInAllOrders_38 rfl (by decide) ?_
      refine mw_istore_n (n := 40) dX5_fewerInAllOrders_39 rfl rfl (by decide) rfl ?_
      refine mw_iconst (n := 41) (v := 0) dX5_fewerInAllOrders_40 rfl (by decide) ?_
      refine mw_istore (n := 43) dX5_fewerInAllOrders_41 rfl (by decide) rfl ?_
      refine mw_sub [2, 4, 1, 0] rfl ?_
      exact b_X5_fewerInAllOrders_43 hg N v2 h N (0 : Int32) (0 : Int32)
    · refine mw_iload_n (n := 13) (q := 2) dX5_fewerInAllOrders_12 rfl rfl rfl ?_
      refine mw_aload_n (n := 14) (q := 0) dX5_fewerInAllOrders_13 rfl rfl rfl ?_
      refine mw_getr (n := 17) (a := 70) (k := 0) cl5 (mkl hg (by decide) (by rfl)) (by decide) rfl rfl fl_X5_9 dX5_fewerInAllOrders_14 rfl ?_
      refine mw_iload_n (n := 18) (q := 3) dX5_fewerInAllOrders_17 rfl rfl rfl ?_
      refine mw_iald (n := 19) (a := 71) (N := 6) (mkl hg (by decide) (by rfl)) dX5_fewerInAllOrders_18 rfl ?_
      refine mw_iload_n (n := 20) (q := 1) dX5_fewerInAllOrders_19 rfl rfl rfl ?_
      refine mw_cutJ (pc' := 30) (lv' := [(0, .ref (mad g 70)), (1, .int v1), (2, .int v2), (3, .int v3)]) (st' := [.int (if ¬ (mgi h 71 (v3).toNatClampNeg) = v1 then (0 : Int32) else ((1 : Int32) <<< (v3 &&& 31))), .int v2]) (fun J => ?_) ?_
      · refine mw_icmp_ne_m (n := 23) (t := 29) dX5_fewerInAllOrders_20 rfl (by decide) (fun c2 => ?_) (fun c2 => ?_)
        · refine mw_iconst (n := 30) (v := 0) dX5_fewerInAllOrders_29 rfl (by decide) ?_
          exact mw_topeq (if_pos c2).symm J
        · refine mw_iconst (n := 24) (v := 1) dX5_fewerInAllOrders_23 rfl (by decide) ?_
          refine mw_iload_n (n := 25) (q := 3) dX5_fewerInAllOrders_24 rfl rfl rfl ?_
          refine mw_ishl (n := 26) dX5_fewerInAllOrders_25 rfl ?_
          refine mw_goto (n := 30) dX5_fewerInAllOrders_26 (by decide) ?_
          exact mw_topeq (if_neg c2).symm J
      refine mw_ior (n := 31) dX5_fewerInAllOrders_30 rfl ?_
      refine mw_letI (fun u3 => ?_)
      refine mw_istore_n (n := 32) dX5_fewerInAllOrders_31 rfl rfl (by decide) rfl ?_
      refine mw_iinc (n := 35) (q := 3) (v := (v3 + (1 : Int32))) dX5_fewerInAllOrders_32 rfl rfl rfl (by decide) rfl ?_
      refine mw_goto (n := 4) dX5_fewerInAllOrders_35 (by decide) ?_
      refine mw_sub [2, 3, 1, 0] rfl ?_
      exact hself4 u3 (v3 + (1 : Int32))
noncomputable def x_X5_fewerInAllOrders (N : Nat) (p0 : Int32) (h : mH) : Option (Int32) :=
  x_X5_fewerInAllOrders_4 N p0 h N (0 : Int32) (0 : Int32)
set_option maxRecDepth 20000 in
set_option maxHeartbeats 4000000 in
theorem t_X5_fewerInAllOrders {g : mG} {l : Launch} (hg : mOK g) (N : Nat) (p0 : Int32) (h : mH) : mf g l 1 mX5_fewerInAllOrders (fun r : Int32 => (some (Value.int r), h)) [.ref (mad g 70), .int p0] h (x_X5_fewerInAllOrders N p0 h) := by
  refine mf_of (by decide) (Nat.le_of_ble_eq_true rfl) ?_
  show mw g l 1 mX5_fewerInAllOrders (fun r : Int32 => (some (Value.int r), h)) 0 [(0, .ref (mad g 70)), (1, .int p0)] [] h _
  unfold x_X5_fewerInAllOrders
  refine mw_iconst (n := 1) (v := 0) dX5_fewerInAllOrders_0 rfl (by decide) ?_
  refine mw_istore_n (n := 2) dX5_fewerInAllOrders_1 rfl rfl (by decide) rfl ?_
  refine mw_iconst (n := 3) (v := 0) dX5_fewerInAllOrders_2 rfl (by decide) ?_
  refine mw_istore_n (n := 4) dX5_fewerInAllOrders_3 rfl rfl (by decide) rfl ?_
  refine mw_sub [2, 3, 1, 0] rfl ?_
  exact b_X5_fewerInAllOrders_4 hg N p0 h N (0 : Int32) (0 : Int32)
noncomputable def x_X5_chancesOfOne_54 (N : Nat) (self4 : Int32 → Int32 → Option (Int32)) (v1 : Int32) (v2 : Int32) (v3 : Int32) (h : mH) : Option (Int32) :=
  self4 v2 (v3 + (1 : Int32))
set_option maxRecDepth 20000 in
set_option maxHeartbeats 4000000 in
theorem b_X5_chancesOfOne_54 {g : mG} {l : Launch} (hg : mOK g) (N : Nat) (v1 : Int32) (v2 : Int32) (v3 : Int32) (h : mH) (self4 : Int32 → Int32 → Option (Int32)) (hself4 : ∀ (v2 : Int32) (v3 : Int32), mw g l 1 mX5_chancesOfOne (fun r : Int32 => (some (Value.int r), h)) 4 [(0, .ref (mad g 70)), (1, .int v1), (2, .int v2), (3, .int v3)] [] h (self4 v2 v3)) : mw g l 1 mX5_chancesOfOne (fun r : Int32 => (some (Value.int r), h)) 54 [(0, .ref (mad g 70)), (1, .int v1), (2, .int v2), (3, .int v3)] [] h (x_X5_chancesOfOne_54 N self4 v1 v2 v3 h) := by
  unfold x_X5_chancesOfOne_54
  refine mw_iinc (n := 57) (q := 3) (v := (v3 + (1 : Int32))) dX5_chancesOfOne_54 rfl rfl rfl (by decide) rfl ?_
  refine mw_goto (n := 4) dX5_chancesOfOne_57 (by decide) ?_
  refine mw_sub [1, 2, 3, 0] rfl ?_
  exact hself4 v2 (v3 + (1 : Int32))
noncomputable def x_X5_chancesOfOne_4 (N : Nat) (v1 : Int32) (h : mH) (f : Nat) : Int32 → Int32 → Option (Int32) :=
  Nat.rec (motive := fun _ => Int32 → Int32 → Option (Int32)) (fun _ _ => none) (fun _ self4 => fun v2 v3 => 
    if ((1 : Int32) <<< ((mgi h 70 3) &&& 31)) ≤ v3 then
      some v2
    else
      mck v3 64 <|
      if ¬ (mgi h 73 (v3).toNatClampNeg) = (1 : Int32) then
        x_X5_chancesOfOne_54 N self4 v1 v2 v3 h
      else
        (x_J6_bitCount_0f7a4 v3).bind fun q3 =>
        (x_X8_power N ((10 : Int32) - v1) q3).bind fun q4 =>
        (x_X8_power N v1 ((mgi h 70 3) - q3)).bind fun q5 =>
        mlet (v2 + (q4 * q5)) fun u6 =>
        x_X5_chancesOfOne_54 N self4 v1 u6 v3 h) f
theorem x_X5_chancesOfOne_4_0 (N : Nat) (v1 : Int32) (h : mH) (v2 : Int32) (v3 : Int32) : x_X5_chancesOfOne_4 N v1 h 0 v2 v3 = none := rfl
theorem x_X5_chancesOfOne_4_s (N : Nat) (v1 : Int32) (h : mH) (f : Nat) (v2 : Int32) (v3 : Int32) : x_X5_chancesOfOne_4 N v1 h (f + 1) v2 v3 = (
    if ((1 : Int32) <<< ((mgi h 70 3) &&& 31)) ≤ v3 then
      some v2
    else
      mck v3 64 <|
      if ¬ (mgi h 73 (v3).toNatClampNeg) = (1 : Int32) then
        x_X5_chancesOfOne_54 N (x_X5_chancesOfOne_4 N v1 h f) v1 v2 v3 h
      else
        (x_J6_bitCount_0f7a4 v3).bind fun q3 =>
        (x_X8_power N ((10 : Int32) - v1) q3).bind fun q4 =>
        (x_X8_power N v1 ((mgi h 70 3) - q3)).bind fun q5 =>
        mlet (v2 + (q4 * q5)) fun u6 =>
        x_X5_chancesOfOne_54 N (x_X5_chancesOfOne_4 N v1 h f) v1 u6 v3 h) := rfl
set_option maxRecDepth 20000 in
set_option maxHeartbeats 4000000 in
theorem b_X5_chancesOfOne_4 {g : mG} {l : Launch} (hg : mOK g) (N : Nat) (v1 : Int32) (h : mH) (f : Nat) : ∀ (v2 : Int32) (v3 : Int32), mw g l 1 mX5_chancesOfOne (fun r : Int32 => (some (Value.int r), h)) 4 [(0, .ref (mad g 70)), (1, .int v1), (2, .int v2), (3, .int v3)] [] h (x_X5_chancesOfOne_4 N v1 h f v2 v3) := by
  induction f with
  | zero => intros; exact mw_none
  | succ f hself4 =>
    intro v2 v3
    refine mw_eq (x_X5_chancesOfOne_4_s N v1 h f v2 v3) ?_
    generalize x_X5_chancesOfOne_4 N v1 h f = self4 at hself4 ⊢
    refine mw_iload_n (n := 5) (q := 3) dX5_chancesOfOne_4 rfl rfl rfl ?_
    refine mw_iconst (n := 6) (v := 1) dX5_chancesOfOne_5 rfl (by decide) ?_
    refine mw_aload_n (n := 7) (q := 0) dX5_chancesOfOne_6 rfl rfl rfl ?_
    refine mw_geti (n := 10) (a := 70) (k := 3) cl5 (mkl hg (by decide) (by rfl)) (by decide) rfl rfl fl_X5_31 dX5_chancesOfOne_7 rfl ?_
    refine mw_ishl (n := 11) dX5_chancesOfOne_10 rfl ?_
    refine mw_icmp_ge (n := 14) (t := 60) dX5_chancesOfOne_11 rfl (by decide) Iff.rfl (fun c1 => ?_) (fun c1 => ?_)
    · refine mw_iload_n (n := 61) (q := 2) dX5_chancesOfOne_60 rfl rfl rfl ?_
      exact mw_iret dX5_chancesOfOne_61 rfl rfl
    · refine mw_aload_n (n := 15) (q := 0) dX5_chancesOfOne_14 rfl rfl rfl ?_
      refine mw_getr (n := 18) (a := 70) (k := 2) cl5 (mkl hg (by decide) (by rfl)) (by decide) rfl rfl fl_X5_18 dX5_chancesOfOne_15 rfl ?_
      refine mw_iload_n (n := 19) (q := 3) dX5_chancesOfOne_18 rfl rfl rfl ?_
      refine mw_iald (n := 20) (a := 73) (N := 64) (mkl hg (by decide) (by rfl)) dX5_chancesOfOne_19 rfl ?_
      refine mw_iconst (n := 21) (v := 1) dX5_chancesOfOne_20 rfl (by decide) ?_
      refine mw_icmp_ne (n := 24) (t := 54) dX5_chancesOfOne_21 rfl (by decide) Iff.rfl (fun c2 => ?_) (fun c2 => ?_)
      · exact b_X5_chancesOfOne_54 hg N v1 v2 v3 h self4 hself4
      · refine mw_iload_n (n := 25) (q := 3) dX5_chancesOfOne_24 rfl rfl rfl ?_
        refine mw_callS (n := 28) (As := [.int v3]) (t_J6_bitCount_0f7a4 v3 h) (by decide) ok_J6_bitCount_0f7a4 rfl lk_X5_70 sm_J6_bitCount_0f7a4 dX5_chancesOfOne_25 rfl rfl (Nat.le_of_ble_eq_true rfl) (fun q3 _ => ?_)
        show mw g l _ _ _ 28 _ [.int q3] h _
        refine mw_istore (n := 30) dX5_chancesOfOne_28 rfl (by decide) rfl ?_
        refine mw_iload_n (n := 31) (q := 3) dX5_chancesOfOne_30 rfl rfl rfl ?_
        refine mw_bipush (n := 33) (v := 10) dX5_chancesOfOne_31 rfl (by decide) ?_
        refine mw_iload_n (n := 34) (q := 2) dX5_chancesOfOne_33 rfl rfl rfl ?_
        refine mw_isub (n := 35) dX5_chancesOfOne_34 rfl ?_
        refine mw_iload (n := 37) (q := 0) dX5_chancesOfOne_35 rfl rfl ?_
        refine mw_callN (n := 40) (As := [.int ((10 : Int32) - v1), .int q3]) (t_X8_power hg N ((10 : Int32) - v1) q3 h) (by decide) ok_X8_power rfl ln_X5_78 sm_X8_power dX5_chancesOfOne_37 rfl rfl (Nat.le_of_ble_eq_true rfl) (fun q4 _ => ?_)
        show mw g l _ _ _ 40 _ [.int q4, .int v2] h _
        refine mw_iload_n (n := 41) (q := 2) dX5_chancesOfOne_40 rfl rfl rfl ?_
        refine mw_aload_n (n := 42) (q := 1) dX5_chancesOfOne_41 rfl rfl rfl ?_
        refine mw_geti (n := 45) (a := 70) (k := 3) cl5 (mkl hg (by decide) (by rfl)) (by decide) rfl rfl fl_X5_31 dX5_chancesOfOne_42 rfl ?_
        refine mw_iload (n := 47) (q := 0) dX5_chancesOfOne_45 rfl rfl ?_
        refine mw_isub (n := 48) dX5_chancesOfOne_47 rfl ?_
        refine mw_callN (n := 51) (As := [.int v1, .int ((mgi h 70 3) - q3)]) (t_X8_power hg N v1 ((mgi h 70 3) - q3) h) (by decide) ok_X8_power rfl ln_X5_78 sm_X8_power dX5_chancesOfOne_48 rfl rfl (Nat.le_of_ble_eq_true rfl) (fun q5 _ => ?_)
        show mw g l _ _ _ 51 _ [.int q5, .int q4, .int v2] h _
        refine mw_imul (n := 52) dX5_chancesOfOne_51 rfl ?_
        refine mw_iadd (n := 53) dX5_chancesOfOne_52 rfl ?_
        refine mw_letI (fun u6 => ?_)
        refine mw_istore_n (n := 54) dX5_chancesOfOne_53 rfl rfl (by decide) rfl ?_
        refine mw_sub [2, 3, 0, 4] rfl ?_
        exact b_X5_chancesOfOne_54 hg N v1 u6 v3 h self4 hself4
noncomputable def x_X5_chancesOfOne (N : Nat) (p0 : Int32) (h : mH) : Option (Int32) :=
  x_X5_chancesOfOne_4 N p0 h N (0 : Int32) (0 : Int32)
set_option maxRecDepth 20000 in
set_option maxHeartbeats 4000000 in
theorem t_X5_chancesOfOne {g : mG} {l : Launch} (hg : mOK g) (N : Nat) (p0 : Int32) (h : mH) : mf g l 1 mX5_chancesOfOne (fun r : Int32 => (some (Value.int r), h)) [.ref (mad g 70), .int p0] h (x_X5_chancesOfOne N p0 h) := by
  refine mf_of (by decide) (Nat.le_of_ble_eq_true rfl) ?_
  show mw g l 1 mX5_chancesOfOne (fun r : Int32 => (some (Value.int r), h)) 0 [(0, .ref (mad g 70)), (1, .int p0)] [] h _
  unfold x_X5_chancesOfOne
  refine mw_iconst (n := 1) (v := 0) dX5_chancesOfOne_0 rfl (by decide) ?_
  refine mw_istore_n (n := 2) dX5_chancesOfOne_1 rfl rfl (by decide) rfl ?_
  refine mw_iconst (n := 3) (v := 0) dX5_chancesOfOne_2 rfl (by decide) ?_
  refine mw_istore_n (n := 4) dX5_chancesOfOne_3 rfl rfl (by decide) rfl ?_
  refine mw_sub [2, 3, 1, 0] rfl ?_
  exact b_X5_chancesOfOne_4 hg N p0 h N (0 : Int32) (0 : Int32)
