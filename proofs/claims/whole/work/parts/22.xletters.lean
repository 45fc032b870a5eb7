noncomputable def x_X4_append (p0 : Int32) (h : mH) : Option (Int32 × mH) :=
  if (mgi h 15 1) < (40 : Int32) then
    mck (mgi h 15 1) 40 <|
    mlet (msi h 16 ((mgi h 15 1)).toNatClampNeg p0) fun h2 =>
    mlet (msi h2 15 1 ((mgi h2 15 1) + (1 : Int32))) fun h3 =>
    some ((1 : Int32), h3)
  else
    some ((0 : Int32), h)
set_option maxRecDepth 20000 in
set_option maxHeartbeats 4000000 in
theorem t_X4_append {g : mG} {l : Launch} (hg : mOK g) (p0 : Int32) (h : mH) : mf g l 0 mX4_append (fun r : Int32 × mH => (some (Value.int r.1), r.2)) [.ref (mad g 15), .int p0] h (x_X4_append p0 h) := by
  refine mf_of (by decide) (Nat.le_of_ble_eq_true rfl) ?_
  show mw g l 0 mX4_append (fun r : Int32 × mH => (some (Value.int r.1), r.2)) 0 [(0, .ref (mad g 15)), (1, .int p0)] [] h _
  unfold x_X4_append
  refine mw_aload_n (n := 1) (q := 0) dX4_append_0 rfl rfl rfl ?_
  refine mw_geti (n := 4) (a := 15) (k := 1) cl4 (mkl hg (by decide) (by rfl)) (by decide) rfl rfl fl_X4_22 dX4_append_1 rfl ?_
  refine mw_bipush (n := 6) (v := 40) dX4_append_4 rfl (by decide) ?_
  refine mw_icmp_lt (n := 9) (t := 11) dX4_append_6 rfl (by decide) Iff.rfl (fun c1 => ?_) (fun c1 => ?_)
  · refine mw_aload_n (n := 12) (q := 0) dX4_append_11 rfl rfl rfl ?_
    refine mw_getr (n := 15) (a := 15) (k := 0) cl4 (mkl hg (by decide) (by rfl)) (by decide) rfl rfl fl_X4_9 dX4_append_12 rfl ?_
    refine mw_aload_n (n := 16) (q := 0) dX4_append_15 rfl rfl rfl ?_
    refine mw_geti (n := 19) (a := 15) (k := 1) cl4 (mkl hg (by decide) (by rfl)) (by decide) rfl rfl fl_X4_22 dX4_append_16 rfl ?_
    refine mw_iload_n (n := 20) (q := 1) dX4_append_19 rfl rfl rfl ?_
    refine mw_iast (n := 21) (a := 16) (N := 40) (mkl hg (by decide) (by rfl)) dX4_append_20 rfl (mw_leth (fun h2 => ?_))
    refine mw_aload_n (n := 22) (q := 0) dX4_append_21 rfl rfl rfl ?_
    refine mw_dup (n := 23) dX4_append_22 rfl rfl ?_
    refine mw_geti (n := 26) (a := 15) (k := 1) cl4 (mkl hg (by decide) (by rfl)) (by decide) rfl rfl fl_X4_22 dX4_append_23 rfl ?_
    refine mw_iconst (n := 27) (v := 1) dX4_append_26 rfl (by decide) ?_
    refine mw_iadd (n := 28) dX4_append_27 rfl ?_
    refine mw_puti (n := 31) (a := 15) (k := 1) cl4 ct4 (mkl hg (by decide) (by rfl)) (by decide) rfl rfl rfl rfl fl_X4_22 dX4_append_28 rfl (mw_leth (fun h3 => ?_))
    refine mw_iconst (n := 32) (v := 1) dX4_append_31 rfl (by decide) ?_
    exact mw_zret dX4_append_32 rfl (Or.inr rfl) rfl
  · refine mw_iconst (n := 10) (v := 0) dX4_append_9 rfl (by decide) ?_
    exact mw_zret dX4_append_10 rfl (Or.inl rfl) rfl
noncomputable def x_X4_letterAt (p0 : Int32) (h : mH) : Option (Int32) :=
  if p0 < 0 then
    some (-9 : Int32)
  else
    if (mgi h 15 1) ≤ p0 then
      some (-9 : Int32)
    else
      if (40 : Int32) ≤ p0 then
        some (-9 : Int32)
      else
        mck p0 40 <|
        some (mgi h 16 (p0).toNatClampNeg)
set_option maxRecDepth 20000 in
set_option maxHeartbeats 4000000 in
theorem t_X4_letterAt {g : mG} {l : Launch} (hg : mOK g) (p0 : Int32) (h : mH) : mf g l 0 mX4_letterAt (fun r : Int32 => (some (Value.int r), h)) [.ref (mad g 15), .int p0] h (x_X4_letterAt p0 h) := by
  refine mf_of (by decide) (Nat.le_of_ble_eq_true rfl) ?_
  show mw g l 0 mX4_letterAt (fun r : Int32 => (some (Value.int r), h)) 0 [(0, .ref (mad g 15)), (1, .int p0)] [] h _
  unfold x_X4_letterAt
  refine mw_iload_n (n := 1) (q := 1) dX4_letterAt_0 rfl rfl rfl ?_
  refine mw_if_lt (n := 4) (t := 27) dX4_letterAt_1 rfl (by decide) Iff.rfl (fun c1 => ?_) (fun c1 => ?_)
  · refine mw_bipush (n := 29) (v := -9) dX4_letterAt_27 rfl (by decide) ?_
    exact mw_iret dX4_letterAt_29 rfl rfl
  · refine mw_iload_n (n := 5) (q := 1) dX4_letterAt_4 rfl rfl rfl ?_
    refine mw_aload_n (n := 6) (q := 0) dX4_letterAt_5 rfl rfl rfl ?_
    refine mw_geti (n := 9) (a := 15) (k := 1) cl4 (mkl hg (by decide) (by rfl)) (by decide) rfl rfl fl_X4_22 dX4_letterAt_6 rfl ?_
    refine mw_icmp_ge (n := 12) (t := 27) dX4_letterAt_9 rfl (by decide) Iff.rfl (fun c2 => ?_) (fun c2 => ?_)
    · refine mw_bipush (n := 29) (v := -9) dX4_letterAt_27 rfl (by decide) ?_
      exact mw_iret dX4_letterAt_29 rfl rfl
    · refine mw_iload_n (n := 13) (q := 1) dX4_letterAt_12 rfl rfl rfl ?_
      refine mw_bipush (n := 15) (v := 40) dX4_letterAt_13 rfl (by decide) ?_
      refine mw_icmp_ge (n := 18) (t := 27) dX4_letterAt_15 rfl (by decide) Iff.rfl (fun c3 => ?_) (fun c3 => ?_)
      · refine mw_bipush (n := 29) (v := -9) dX4_letterAt_27 rfl (by decide) ?_
        exact mw_iret dX4_letterAt_29 rfl rfl
      · refine mw_aload_n (n := 19) (q := 0) dX4_letterAt_18 rfl rfl rfl ?_
        refine mw_getr (n := 22) (a := 15) (k := 0) cl4 (mkl hg (by decide) (by rfl)) (by decide) rfl rfl fl_X4_9 dX4_letterAt_19 rfl ?_
        refine mw_iload_n (n := 23) (q := 1) dX4_letterAt_22 rfl rfl rfl ?_
        refine mw_iald (n := 24) (a := 16) (N := 40) (mkl hg (by decide) (by rfl)) dX4_letterAt_23 rfl ?_
        refine mw_goto (n := 29) dX4_letterAt_24 (by decide) ?_
        exact mw_iret dX4_letterAt_29 rfl rfl
noncomputable def x_X4_figureAt (p0 : Int32) (p1 : Int32) (p2 : Int32) (h : mH) : Option (Int32) :=
  (x_X4_letterAt p0 h).bind fun q1 =>
  mlet (q1 - (48 : Int32)) fun u2 =>
  some (if u2 < p1 then (-9 : Int32) else (if p2 < u2 then (-9 : Int32) else u2))
set_option maxRecDepth 20000 in
set_option maxHeartbeats 4000000 in
theorem t_X4_figureAt {g : mG} {l : Launch} (hg : mOK g) (p0 : Int32) (p1 : Int32) (p2 : Int32) (h : mH) : mf g l 1 mX4_figureAt (fun r : Int32 => (some (Value.int r), h)) [.ref (mad g 15), .int p0, .int p1, .int p2] h (x_X4_figureAt p0 p1 p2 h) := by
  refine mf_of (by decide) (Nat.le_of_ble_eq_true rfl) ?_
  show mw g l 1 mX4_figureAt (fun r : Int32 => (some (Value.int r), h)) 0 [(0, .ref (mad g 15)), (1, .int p0), (2, .int p1), (3, .int p2)] [] h _
  unfold x_X4_figureAt
  refine mw_aload_n (n := 1) (q := 0) dX4_figureAt_0 rfl rfl rfl ?_
  refine mw_iload_n (n := 2) (q := 1) dX4_figureAt_1 rfl rfl rfl ?_
  refine mw_callV (n := 5) (a := 15) (As := [.int p0]) cl4 (mkl hg (by decide) (by rfl)) (t_X4_letterAt hg p0 h) (by decide) ok_X4_letterAt rfl rfl lk_X4_26 im_X4_letterAt se_X4_letterAt dX4_figureAt_2 rfl rfl (Nat.le_of_ble_eq_true rfl) (fun q1 _ => ?_)
  show mw g l _ _ _ 5 _ [.int q1] h _
  refine mw_bipush (n := 7) (v := 48) dX4_figureAt_5 rfl (by decide) ?_
  refine mw_isub (n := 8) dX4_figureAt_7 rfl ?_
  refine mw_letI (fun u2 => ?_)
  refine mw_istore (n := 10) dX4_figureAt_8 rfl (by decide) rfl ?_
  refine mw_iload (n := 12) (q := 0) dX4_figureAt_10 rfl rfl ?_
  refine mw_iload_n (n := 13) (q := 3) dX4_figureAt_12 rfl rfl rfl ?_
  refine mw_cutJ (pc' := 29) (lv' := [(4, .int u2), (0, .ref (mad g 15)), (1, .int p0), (2, .int p1), (3, .int p2)]) (st' := [.int (if u2 < p1 then (-9 : Int32) else (if p2 < u2 then (-9 : Int32) else u2))]) (fun J => ?_) ?_
  · refine mw_icmp_lt_m (n := 16) (t := 27) dX4_figureAt_13 rfl (by decide) (fun c3 => ?_) (fun c3 => ?_)
    · refine mw_bipush (n := 29) (v := -9) dX4_figureAt_27 rfl (by decide) ?_
      exact mw_topeq (if_pos c3).symm J
    · refine mw_iload (n := 18) (q := 0) dX4_figureAt_16 rfl rfl ?_
      refine mw_iload_n (n := 19) (q := 4) dX4_figureAt_18 rfl rfl rfl ?_
      refine mw_icmp_gt_m (n := 22) (t := 27) dX4_figureAt_19 rfl (by decide) (fun c4 => ?_) (fun c4 => ?_)
      · refine mw_bipush (n := 29) (v := -9) dX4_figureAt_27 rfl (by decide) ?_
        exact mw_topeq ((if_neg c3).trans (if_pos c4)).symm J
      · refine mw_iload (n := 24) (q := 0) dX4_figureAt_22 rfl rfl ?_
        refine mw_goto (n := 29) dX4_figureAt_24 (by decide) ?_
        exact mw_topeq ((if_neg c3).trans (if_neg c4)).symm J
  exact mw_iret dX4_figureAt_29 rfl rfl
noncomputable def x_X4_readPins_53 (N : Nat) (self18 : Int32 → mH → Option (Int32 × mH)) (v2 : Int32) (v3 : Int32) (v4 : Int32) (h : mH) : Option (Int32 × mH) :=
  if (6 : Int32) ≤ v4 then
    some (v2, h)
  else
    (x_X6_cells 17 h).bind fun q2 =>
    if v4 < q2 then
      (x_X4_figureAt (v2 + (1 : Int32)) (0 : Int32) ((mgi h 17 0) - (1 : Int32)) h).bind fun q4 =>
      if q4 = (-9 : Int32) then
        some ((v2 + (1 : Int32)), h)
      else
        (x_X6_columnsOf 17 (mgi h 17 4) q4 h).bind fun q6 =>
        (x_J6_bitCount_0f7a4 q6).bind fun q7 =>
        if ¬ q7 = (mgi h 17 1) then
          (x_X4_figureAt (v2 + (2 : Int32)) (0 : Int32) ((mgi h 17 1) - (1 : Int32)) h).bind fun q9 =>
          if q9 = (-9 : Int32) then
            some ((v2 + (2 : Int32)), h)
          else
            (x_X6_bitAt 17 q4 q9 h).bind fun q11 =>
            if ((mgi h 17 4) &&& q11) = 0 then
              (x_X6_putPin 17 (((mgi h 17 1) * q4) + q9) (if ¬ v3 = (111 : Int32) then (2 : Int32) else (1 : Int32)) h).bind fun q14 =>
              self18 (v2 + (3 : Int32)) q14
            else
              some ((v2 + (2 : Int32)), h)
        else
          some ((v2 + (1 : Int32)), h)
    else
      some (v2, h)
set_option maxRecDepth 20000 in
set_option maxHeartbeats 4000000 in
theorem b_X4_readPins_53 {g : mG} {l : Launch} (hg : mOK g) (N : Nat) (v2 : Int32) (v3 : Int32) (v4 : Int32) (self18 : Int32 → mH → Option (Int32 × mH)) (hself18 : ∀ (v2 : Int32) (h : mH), mw g l 2 mX4_readPins (fun r : Int32 × mH => (some (Value.int r.1), r.2)) 18 [(0, .ref (mad g 15)), (2, .int v2)] [] h (self18 v2 h)) (h : mH) : mw g l 2 mX4_readPins (fun r : Int32 × mH => (some (Value.int r.1), r.2)) 53 [(0, .ref (mad g 15)), (2, .int v2), (3, .int v3), (4, .int v4)] [] h (x_X4_readPins_53 N self18 v2 v3 v4 h) := by
  unfold x_X4_readPins_53
  refine mw_iload (n := 55) (q := 3) dX4_readPins_53 rfl rfl ?_
  refine mw_bipush (n := 57) (v := 6) dX4_readPins_55 rfl (by decide) ?_
  refine mw_icmp_ge (n := 60) (t := 72) dX4_readPins_57 rfl (by decide) Iff.rfl (fun c1 => ?_) (fun c1 => ?_)
  · refine mw_iload_n (n := 73) (q := 1) dX4_readPins_72 rfl rfl rfl ?_
    exact mw_iret dX4_readPins_73 rfl rfl
  · refine mw_iload (n := 62) (q := 3) dX4_readPins_60 rfl rfl ?_
    refine mw_aload_n (n := 63) (q := 0) dX4_readPins_62 rfl rfl rfl ?_
    refine mw_getr (n := 66) (a := 15) (k := 2) cl4 (mkl hg (by decide) (by rfl)) (by decide) rfl rfl fl_X4_18 dX4_readPins_63 rfl ?_
    refine mw_callV (n := 69) (a := 17) (As := []) cl6 (mkl hg (by decide) (by rfl)) (t_X6_cells hg 17 (mkl hg (by decide) (by rfl)) h) (by decide) ok_X6_cells rfl rfl lk_X4_63 im_X6_cells se_X6_cells dX4_readPins_66 rfl rfl (Nat.le_of_ble_eq_true rfl) (fun q2 _ => ?_)
    show mw g l _ _ _ 69 _ [.int q2, .int v4] h _
    refine mw_icmp_lt (n := 72) (t := 74) dX4_readPins_69 rfl (by decide) Iff.rfl (fun c3 => ?_) (fun c3 => ?_)
    · refine mw_aload_n (n := 75) (q := 0) dX4_readPins_74 rfl rfl rfl ?_
      refine mw_iload_n (n := 76) (q := 1) dX4_readPins_75 rfl rfl rfl ?_
      refine mw_iconst (n := 77) (v := 1) dX4_readPins_76 rfl (by decide) ?_
      refine mw_iadd (n := 78) dX4_readPins_77 rfl ?_
      refine mw_iconst (n := 79) (v := 0) dX4_readPins_78 rfl (by decide) ?_
      refine mw_aload_n (n := 80) (q := 0) dX4_readPins_79 rfl rfl rfl ?_
      refine mw_getr (n := 83) (a := 15) (k := 2) cl4 (mkl hg (by decide) (by rfl)) (by decide) rfl rfl fl_X4_18 dX4_readPins_80 rfl ?_
      refine mw_geti (n := 86) (a := 17) (k := 0) cl6 (mkl hg (by decide) (by rfl)) (by decide) rfl rfl fl_X4_34 dX4_readPins_83 rfl ?_
      refine mw_iconst (n := 87) (v := 1) dX4_readPins_86 rfl (by decide) ?_
      refine mw_isub (n := 88) dX4_readPins_87 rfl ?_
      refine mw_callV (n := 91) (a := 15) (As := [.int (v2 + (1 : Int32)), .int (0 : Int32), .int ((mgi h 17 0) - (1 : Int32))]) cl4 (mkl hg (by decide) (by rfl)) (t_X4_figureAt hg (v2 + (1 : Int32)) (0 : Int32) ((mgi h 17 0) - (1 : Int32)) h) (by decide) ok_X4_figureAt rfl rfl lk_X4_30 im_X4_figureAt se_X4_figureAt dX4_readPins_88 rfl rfl (Nat.le_of_ble_eq_true rfl) (fun q4 _ => ?_)
      show mw g l _ _ _ 91 _ [.int q4] h _
      refine mw_istore (n := 93) dX4_readPins_91 rfl (by decide) rfl ?_
      refine mw_iload (n := 95) (q := 0) dX4_readPins_93 rfl rfl ?_
      refine mw_bipush (n := 97) (v := -9) dX4_readPins_95 rfl (by decide) ?_
      refine mw_icmp_eq (n := 100) (t := 129) dX4_readPins_97 rfl (by decide) Iff.rfl (fun c5 => ?_) (fun c5 => ?_)
      · refine mw_iload_n (n := 130) (q := 2) dX4_readPins_129 rfl rfl rfl ?_
        refine mw_iconst (n := 131) (v := 1) dX4_readPins_130 rfl (by decide) ?_
        refine mw_iadd (n := 132) dX4_readPins_131 rfl ?_
        exact mw_iret dX4_readPins_132 rfl rfl
      · refine mw_aload_n (n := 101) (q := 1) dX4_readPins_100 rfl rfl rfl ?_
        refine mw_getr (n := 104) (a := 15) (k := 2) cl4 (mkl hg (by decide) (by rfl)) (by decide) rfl rfl fl_X4_18 dX4_readPins_101 rfl ?_
        refine mw_aload_n (n := 105) (q := 1) dX4_readPins_104 rfl rfl rfl ?_
        refine mw_getr (n := 108) (a := 15) (k := 2) cl4 (mkl hg (by decide) (by rfl)) (by decide) rfl rfl fl_X4_18 dX4_readPins_105 rfl ?_
        refine mw_geti (n := 111) (a := 17) (k := 4) cl6 (mkl hg (by decide) (by rfl)) (by decide) rfl rfl fl_X4_53 dX4_readPins_108 rfl ?_
        refine mw_iload (n := 113) (q := 0) dX4_readPins_111 rfl rfl ?_
        refine mw_callV (n := 116) (a := 17) (As := [.int (mgi h 17 4), .int q4]) cl6 (mkl hg (by decide) (by rfl)) (t_X6_columnsOf hg 17 (mgi h 17 4) q4 (mkl hg (by decide) (by rfl)) h) (by decide) ok_X6_columnsOf rfl rfl lk_X4_66 im_X6_columnsOf se_X6_columnsOf dX4_readPins_113 rfl rfl (Nat.le_of_ble_eq_true rfl) (fun q6 _ => ?_)
        show mw g l _ _ _ 116 _ [.int q6] h _
        refine mw_callS (n := 119) (As := [.int q6]) (t_J6_bitCount_0f7a4 q6 h) (by decide) ok_J6_bitCount_0f7a4 rfl lk_X4_70 sm_J6_bitCount_0f7a4 dX4_readPins_116 rfl rfl (Nat.le_of_ble_eq_true rfl) (fun q7 _ => ?_)
        show mw g l _ _ _ 119 _ [.int q7] h _
        refine mw_aload_n (n := 120) (q := 1) dX4_readPins_119 rfl rfl rfl ?_
        refine mw_getr (n := 123) (a := 15) (k := 2) cl4 (mkl hg (by decide) (by rfl)) (by decide) rfl rfl fl_X4_18 dX4_readPins_120 rfl ?_
        refine mw_geti (n := 126) (a := 17) (k := 1) cl6 (mkl hg (by decide) (by rfl)) (by decide) rfl rfl fl_X4_37 dX4_readPins_123 rfl ?_
        refine mw_icmp_ne (n := 129) (t := 133) dX4_readPins_126 rfl (by decide) Iff.rfl (fun c8 => ?_) (fun c8 => ?_)
        · refine mw_aload_n (n := 134) (q := 1) dX4_readPins_133 rfl rfl rfl ?_
          refine mw_iload_n (n := 135) (q := 2) dX4_readPins_134 rfl rfl rfl ?_
          refine mw_iconst (n := 136) (v := 2) dX4_readPins_135 rfl (by decide) ?_
          refine mw_iadd (n := 137) dX4_readPins_136 rfl ?_
          refine mw_iconst (n := 138) (v := 0) dX4_readPins_137 rfl (by decide) ?_
          refine mw_aload_n (n := 139) (q := 1) dX4_readPins_138 rfl rfl rfl ?_
          refine mw_getr (n := 142) (a := 15) (k := 2) cl4 (mkl hg (by decide) (by rfl)) (by decide) rfl rfl fl_X4_18 dX4_readPins_139 rfl ?_
          refine mw_geti (n := 145) (a := 17) (k := 1) cl6 (mkl hg (by decide) (by rfl)) (by decide) rfl rfl fl_X4_37 dX4_readPins_142 rfl ?_
          refine mw_iconst (n := 146) (v := 1) dX4_readPins_145 rfl (by decide) ?_
          refine mw_isub (n := 147) dX4_readPins_146 rfl ?_
          refine mw_callV (n := 150) (a := 15) (As := [.int (v2 + (2 : Int32)), .int (0 : Int32), .int ((mgi h 17 1) - (1 : Int32))]) cl4 (mkl hg (by decide) (by rfl)) (t_X4_figureAt hg (v2 + (2 : Int32)) (0 : Int32) ((mgi h 17 1) - (1 : Int32)) h) (by decide) ok_X4_figureAt rfl rfl lk_X4_30 im_X4_figureAt se_X4_figureAt dX4_readPins_147 rfl rfl (Nat.le_of_ble_eq_true rfl) (fun q9 _ => ?_)
          show mw g l _ _ _ 150 _ [.int q9] h _
          refine mw_istore (n := 152) dX4_readPins_150 rfl (by decide) rfl ?_
          refine mw_iload (n := 154) (q := 0) dX4_readPins_152 rfl rfl ?_
          refine mw_bipush (n := 156) (v := -9) dX4_readPins_154 rfl (by decide) ?_
          refine mw_icmp_eq (n := 159) (t := 181) dX4_readPins_156 rfl (by decide) Iff.rfl (fun c10 => ?_) (fun c10 => ?_)
          · refine mw_iload_n (n := 182) (q := 3) dX4_readPins_181 rfl rfl rfl ?_
            refine mw_iconst (n := 183) (v := 2) dX4_readPins_182 rfl (by decide) ?_
            refine mw_iadd (n := 184) dX4_readPins_183 rfl ?_
            exact mw_iret dX4_readPins_184 rfl rfl
          · refine mw_aload_n (n := 160) (q := 2) dX4_readPins_159 rfl rfl rfl ?_
            refine mw_getr (n := 163) (a := 15) (k := 2) cl4 (mkl hg (by decide) (by rfl)) (by decide) rfl rfl fl_X4_18 dX4_readPins_160 rfl ?_
            refine mw_geti (n := 166) (a := 17) (k := 4) cl6 (mkl hg (by decide) (by rfl)) (by decide) rfl rfl fl_X4_53 dX4_readPins_163 rfl ?_
            refine mw_aload_n (n := 167) (q := 2) dX4_readPins_166 rfl rfl rfl ?_
            refine mw_getr (n := 170) (a := 15) (k := 2) cl4 (mkl hg (by decide) (by rfl)) (by decide) rfl rfl fl_X4_18 dX4_readPins_167 rfl ?_
            refine mw_iload (n := 172) (q := 1) dX4_readPins_170 rfl rfl ?_
            refine mw_iload (n := 174) (q := 0) dX4_readPins_172 rfl rfl ?_
            refine mw_callV (n := 177) (a := 17) (As := [.int q4, .int q9]) cl6 (mkl hg (by decide) (by rfl)) (t_X6_bitAt hg 17 q4 q9 (mkl hg (by decide) (by rfl)) h) (by decide) ok_X6_bitAt rfl rfl lk_X4_75 im_X6_bitAt se_X6_bitAt dX4_readPins_174 rfl rfl (Nat.le_of_ble_eq_true rfl) (fun q11 _ => ?_)
            show mw g l _ _ _ 177 _ [.int q11, .int (mgi h 17 4)] h _
            refine mw_iand (n := 178) dX4_readPins_177 rfl ?_
            refine mw_if_eq (n := 181) (t := 185) dX4_readPins_178 rfl (by decide) Iff.rfl (fun c12 => ?_) (fun c12 => ?_)
            · refine mw_aload_n (n := 186) (q := 2) dX4_readPins_185 rfl rfl rfl ?_
              refine mw_getr (n := 189) (a := 15) (k := 2) cl4 (mkl hg (by decide) (by rfl)) (by decide) rfl rfl fl_X4_18 dX4_readPins_186 rfl ?_
              refine mw_aload_n (n := 190) (q := 2) dX4_readPins_189 rfl rfl rfl ?_
              refine mw_getr (n := 193) (a := 15) (k := 2) cl4 (mkl hg (by decide) (by rfl)) (by decide) rfl rfl fl_X4_18 dX4_readPins_190 rfl ?_
              refine mw_geti (n := 196) (a := 17) (k := 1) cl6 (mkl hg (by decide) (by rfl)) (by decide) rfl rfl fl_X4_37 dX4_readPins_193 rfl ?_
              refine mw_iload (n := 198) (q := 1) dX4_readPins_196 rfl rfl ?_
              refine mw_imul (n := 199) dX4_readPins_198 rfl ?_
              refine mw_iload (n := 201) (q := 0) dX4_readPins_199 rfl rfl ?_
              refine mw_iadd (n := 202) dX4_readPins_201 rfl ?_
              refine mw_iload_n (n := 203) (q := 4) dX4_readPins_202 rfl rfl rfl ?_
              refine mw_bipush (n := 205) (v := 111) dX4_readPins_203 rfl (by decide) ?_
              refine mw_cutJ (pc' := 213) (lv' := [(6, .int q9), (5, .int q4), (0, .ref (mad g 15)), (2, .int v2), (3, .int v3), (4, .int v4)]) (st' := [.int (if ¬ v3 = (111 : Int32) then (2 : Int32) else (1 : Int32)), .int (((mgi h 17 1) * q4) + q9), .ref (mad g 17)]) (fun J => ?_) ?_
              · refine mw_icmp_ne_m (n := 208) (t := 212) dX4_readPins_205 rfl (by decide) (fun c13 => ?_) (fun c13 => ?_)
                · refine mw_iconst (n := 213) (v := 2) dX4_readPins_212 rfl (by decide) ?_
                  exact mw_topeq (if_pos c13).symm J
                · refine mw_iconst (n := 209) (v := 1) dX4_readPins_208 rfl (by decide) ?_
                  refine mw_goto (n := 213) dX4_readPins_209 (by decide) ?_
                  exact mw_topeq (if_neg c13).symm J
              refine mw_callV (n := 216) (a := 17) (As := [.int (((mgi h 17 1) * q4) + q9), .int (if ¬ v3 = (111 : Int32) then (2 : Int32) else (1 : Int32))]) cl6 (mkl hg (by decide) (by rfl)) (t_X6_putPin hg 17 (((mgi h 17 1) * q4) + q9) (if ¬ v3 = (111 : Int32) then (2 : Int32) else (1 : Int32)) (mkl hg (by decide) (by rfl)) h) (by decide) ok_X6_putPin rfl rfl lk_X4_78 im_X6_putPin se_X6_putPin dX4_readPins_213 rfl rfl (Nat.le_of_ble_eq_true rfl) (fun q14 _ => ?_)
              show mw g l _ _ _ 216 _ [] q14 _
              refine mw_iinc (n := 219) (q := 3) (v := (v2 + (3 : Int32))) dX4_readPins_216 rfl rfl rfl (by decide) rfl ?_
              refine mw_goto (n := 18) dX4_readPins_219 (by decide) ?_
              refine mw_sub [3, 0] rfl ?_
              exact hself18 (v2 + (3 : Int32)) q14
            · refine mw_iload_n (n := 182) (q := 3) dX4_readPins_181 rfl rfl rfl ?_
              refine mw_iconst (n := 183) (v := 2) dX4_readPins_182 rfl (by decide) ?_
              refine mw_iadd (n := 184) dX4_readPins_183 rfl ?_
              exact mw_iret dX4_readPins_184 rfl rfl
        · refine mw_iload_n (n := 130) (q := 2) dX4_readPins_129 rfl rfl rfl ?_
          refine mw_iconst (n := 131) (v := 1) dX4_readPins_130 rfl (by decide) ?_
          refine mw_iadd (n := 132) dX4_readPins_131 rfl ?_
          exact mw_iret dX4_readPins_132 rfl rfl
    · refine mw_iload_n (n := 73) (q := 1) dX4_readPins_72 rfl rfl rfl ?_
      exact mw_iret dX4_readPins_73 rfl rfl
noncomputable def x_X4_readPins_18 (N : Nat) (f : Nat) : Int32 → mH → Option (Int32 × mH) :=
  Nat.rec (motive := fun _ => Int32 → mH → Option (Int32 × mH)) (fun _ _ => none) (fun _ self18 => fun v2 h => 
    if (mgi h 15 1) ≤ v2 then
      some ((-9 : Int32), h)
    else
      (x_X4_letterAt v2 h).bind fun q2 =>
      (x_X6_pinCount 17 h).bind fun q3 =>
      if q2 = (111 : Int32) then
        x_X4_readPins_53 N self18 v2 q2 q3 h
      else
        if ¬ q2 = (120 : Int32) then
          some (v2, h)
        else
          x_X4_readPins_53 N self18 v2 q2 q3 h) f
theorem x_X4_readPins_18_0 (N : Nat) (v2 : Int32) (h : mH) : x_X4_readPins_18 N 0 v2 h = none := rfl
theorem x_X4_readPins_18_s (N : Nat) (f : Nat) (v2 : Int32) (h : mH) : x_X4_readPins_18 N (f + 1) v2 h = (
    if (mgi h 15 1) ≤ v2 then
      some ((-9 : Int32), h)
    else
      (x_X4_letterAt v2 h).bind fun q2 =>
      (x_X6_pinCount 17 h).bind fun q3 =>
      if q2 = (111 : Int32) then
        x_X4_readPins_53 N (x_X4_readPins_18 N f) v2 q2 q3 h
      else
        if ¬ q2 = (120 : Int32) then
          some (v2, h)
        else
          x_X4_readPins_53 N (x_X4_readPins_18 N f) v2 q2 q3 h) := rfl
set_option maxRecDepth 20000 in
set_option maxHeartbeats 4000000 in
theorem b_X4_readPins_18 {g : mG} {l : Launch} (hg : mOK g) (N : Nat) (f : Nat) : ∀ (v2 : Int32) (h : mH), mw g l 2 mX4_readPins (fun r : Int32 × mH => (some (Value.int r.1), r.2)) 18 [(0, .ref (mad g 15)), (2, .int v2)] [] h (x_X4_readPins_18 N f v2 h) := by
  induction f with
  | zero => intros; exact mw_none
  | succ f hself18 =>
    intro v2 h
    refine mw_eq (x_X4_readPins_18_s N f v2 h) ?_
    generalize x_X4_readPins_18 N f = self18 at hself18 ⊢
    refine mw_iload_n (n := 19) (q := 1) dX4_readPins_18 rfl rfl rfl ?_
    refine mw_aload_n (n := 20) (q := 0) dX4_readPins_19 rfl rfl rfl ?_
    refine mw_geti (n := 23) (a := 15) (k := 1) cl4 (mkl hg (by decide) (by rfl)) (by decide) rfl rfl fl_X4_22 dX4_readPins_20 rfl ?_
    refine mw_icmp_ge (n := 26) (t := 222) dX4_readPins_23 rfl (by decide) Iff.rfl (fun c1 => ?_) (fun c1 => ?_)
    · refine mw_bipush (n := 224) (v := -9) dX4_readPins_222 rfl (by decide) ?_
      exact mw_iret dX4_readPins_224 rfl rfl
    · refine mw_aload_n (n := 27) (q := 0) dX4_readPins_26 rfl rfl rfl ?_
      refine mw_iload_n (n := 28) (q := 1) dX4_readPins_27 rfl rfl rfl ?_
      refine mw_callV (n := 31) (a := 15) (As := [.int v2]) cl4 (mkl hg (by decide) (by rfl)) (t_X4_letterAt hg v2 h) (by decide) ok_X4_letterAt rfl rfl lk_X4_26 im_X4_letterAt se_X4_letterAt dX4_readPins_28 rfl rfl (Nat.le_of_ble_eq_true rfl) (fun q2 _ => ?_)
      show mw g l _ _ _ 31 _ [.int q2] h _
      refine mw_istore_n (n := 32) dX4_readPins_31 rfl rfl (by decide) rfl ?_
      refine mw_aload_n (n := 33) (q := 1) dX4_readPins_32 rfl rfl rfl ?_
      refine mw_getr (n := 36) (a := 15) (k := 2) cl4 (mkl hg (by decide) (by rfl)) (by decide) rfl rfl fl_X4_18 dX4_readPins_33 rfl ?_
      refine mw_callV (n := 39) (a := 17) (As := []) cl6 (mkl hg (by decide) (by rfl)) (t_X6_pinCount hg 17 (mkl hg (by decide) (by rfl)) h) (by decide) ok_X6_pinCount rfl rfl lk_X4_59 im_X6_pinCount se_X6_pinCount dX4_readPins_36 rfl rfl (Nat.le_of_ble_eq_true rfl) (fun q3 _ => ?_)
      show mw g l _ _ _ 39 _ [.int q3] h _
      refine mw_istore (n := 41) dX4_readPins_39 rfl (by decide) rfl ?_
      refine mw_iload_n (n := 42) (q := 1) dX4_readPins_41 rfl rfl rfl ?_
      refine mw_bipush (n := 44) (v := 111) dX4_readPins_42 rfl (by decide) ?_
      refine mw_icmp_eq (n := 47) (t := 53) dX4_readPins_44 rfl (by decide) Iff.rfl (fun c4 => ?_) (fun c4 => ?_)
      · refine mw_sub [2, 3, 1, 0] rfl ?_
        exact b_X4_readPins_53 hg N v2 q2 q3 self18 hself18 h
      · refine mw_iload_n (n := 48) (q := 1) dX4_readPins_47 rfl rfl rfl ?_
        refine mw_bipush (n := 50) (v := 120) dX4_readPins_48 rfl (by decide) ?_
        refine mw_icmp_ne (n := 53) (t := 72) dX4_readPins_50 rfl (by decide) Iff.rfl (fun c5 => ?_) (fun c5 => ?_)
        · refine mw_iload_n (n := 73) (q := 3) dX4_readPins_72 rfl rfl rfl ?_
          exact mw_iret dX4_readPins_73 rfl rfl
        · refine mw_sub [2, 3, 1, 0] rfl ?_
          exact b_X4_readPins_53 hg N v2 q2 q3 self18 hself18 h
noncomputable def x_X4_readPins (N : Nat) (p0 : Int32) (h : mH) : Option (Int32 × mH) :=
  mlet (msi h 17 4 (0 : Int32)) fun h1 =>
  mlet (msi h1 17 5 (0 : Int32)) fun h2 =>
  x_X4_readPins_18 N N p0 h2
set_option maxRecDepth 20000 in
set_option maxHeartbeats 4000000 in
theorem t_X4_readPins {g : mG} {l : Launch} (hg : mOK g) (N : Nat) (p0 : Int32) (h : mH) : mf g l 2 mX4_readPins (fun r : Int32 × mH => (some (Value.int r.1), r.2)) [.ref (mad g 15), .int p0] h (x_X4_readPins N p0 h) := by
  refine mf_of (by decide) (Nat.le_of_ble_eq_true rfl) ?_
  show mw g l 2 mX4_readPins (fun r : Int32 × mH => (some (Value.int r.1), r.2)) 0 [(0, .ref (mad g 15)), (1, .int p0)] [] h _
  unfold x_X4_readPins
  refine mw_aload_n (n := 1) (q := 0) dX4_readPins_0 rfl rfl rfl ?_
  refine mw_getr (n := 4) (a := 15) (k := 2) cl4 (mkl hg (by decide) (by rfl)) (by decide) rfl rfl fl_X4_18 dX4_readPins_1 rfl ?_
  refine mw_iconst (n := 5) (v := 0) dX4_readPins_4 rfl (by decide) ?_
  refine mw_puti (n := 8) (a := 17) (k := 4) cl6 ct6 (mkl hg (by decide) (by rfl)) (by decide) rfl rfl rfl rfl fl_X4_53 dX4_readPins_5 rfl (mw_leth (fun h1 => ?_))
  refine mw_aload_n (n := 9) (q := 0) dX4_readPins_8 rfl rfl rfl ?_
  refine mw_getr (n := 12) (a := 15) (k := 2) cl4 (mkl hg (by decide) (by rfl)) (by decide) rfl rfl fl_X4_18 dX4_readPins_9 rfl ?_
  refine mw_iconst (n := 13) (v := 0) dX4_readPins_12 rfl (by decide) ?_
  refine mw_puti (n := 16) (a := 17) (k := 5) cl6 ct6 (mkl hg (by decide) (by rfl)) (by decide) rfl rfl rfl rfl fl_X4_56 dX4_readPins_13 rfl (mw_leth (fun h2 => ?_))
  refine mw_iload_n (n := 17) (q := 1) dX4_readPins_16 rfl rfl rfl ?_
  refine mw_istore_n (n := 18) dX4_readPins_17 rfl rfl (by decide) rfl ?_
  refine mw_sub [1, 0] rfl ?_
  exact b_X4_readPins_18 hg N N p0 h2
noncomputable def x_X4_readSheet_79 (N : Nat) (self72 : Int32 → Int32 → mH → Option (Int32 × mH)) (v2 : Int32) (f : Nat) : Int32 → Int32 → mH → Option (Int32 × mH) :=
  Nat.rec (motive := fun _ => Int32 → Int32 → mH → Option (Int32 × mH)) (fun _ _ _ => none) (fun _ self79 => fun v1 v3 h => 
    (x_X6_totalCount 17 v2 h).bind fun q1 =>
    if q1 ≤ v3 then
      self72 v1 (v2 + (1 : Int32)) h
    else
      (x_X6_mostTotal 17 v2 h).bind fun q3 =>
      (x_X4_figureAt v1 (0 : Int32) q3 h).bind fun q4 =>
      if ¬ q4 = (-9 : Int32) then
        (x_X6_putTotal 17 v2 v3 q4 h).bind fun q6 =>
        self79 (v1 + (1 : Int32)) (v3 + (1 : Int32)) q6
      else
        some (v1, h)) f
theorem x_X4_readSheet_79_0 (N : Nat) (self72 : Int32 → Int32 → mH → Option (Int32 × mH)) (v2 : Int32) (v1 : Int32) (v3 : Int32) (h : mH) : x_X4_readSheet_79 N self72 v2 0 v1 v3 h = none := rfl
theorem x_X4_readSheet_79_s (N : Nat) (self72 : Int32 → Int32 → mH → Option (Int32 × mH)) (v2 : Int32) (f : Nat) (v1 : Int32) (v3 : Int32) (h : mH) : x_X4_readSheet_79 N self72 v2 (f + 1) v1 v3 h = (
    (x_X6_totalCount 17 v2 h).bind fun q1 =>
    if q1 ≤ v3 then
      self72 v1 (v2 + (1 : Int32)) h
    else
      (x_X6_mostTotal 17 v2 h).bind fun q3 =>
      (x_X4_figureAt v1 (0 : Int32) q3 h).bind fun q4 =>
      if ¬ q4 = (-9 : Int32) then
        (x_X6_putTotal 17 v2 v3 q4 h).bind fun q6 =>
        (x_X4_readSheet_79 N self72 v2 f) (v1 + (1 : Int32)) (v3 + (1 : Int32)) q6
      else
        some (v1, h)) := rfl
set_option maxRecDepth 20000 in
set_option maxHeartbeats 4000000 in
theorem b_X4_readSheet_79 {g : mG} {l : Launch} (hg : mOK g) (N : Nat) (v2 : Int32) (self72 : Int32 → Int32 → mH → Option (Int32 × mH)) (hself72 : ∀ (v1 : Int32) (v2 : Int32) (h : mH), mw g l 3 mX4_readSheet (fun r : Int32 × mH => (some (Value.int r.1), r.2)) 72 [(0, .ref (mad g 15)), (1, .int v1), (2, .int v2)] [] h (self72 v1 v2 h)) (f : Nat) : ∀ (v1 : Int32) (v3 : Int32) (h : mH), mw g l 3 mX4_readSheet (fun r : Int32 × mH => (some (Value.int r.1), r.2)) 79 [(0, .ref (mad g 15)), (1, .int v1), (2, .int v2), (3, .int v3)] [] h (x_X4_readSheet_79 N self72 v2 f v1 v3 h) := by
  induction f with
  | zero => intros; exact mw_none
  | succ f hself79 =>
    intro v1 v3 h
    refine mw_eq (x_X4_readSheet_79_s N self72 v2 f v1 v3 h) ?_
    generalize x_X4_readSheet_79 N self72 v2 f = self79 at hself79 ⊢
    refine mw_iload_n (n := 80) (q := 3) dX4_readSheet_79 rfl rfl rfl ?_
    refine mw_aload_n (n := 81) (q := 0) dX4_readSheet_80 rfl rfl rfl ?_
    refine mw_getr (n := 84) (a := 15) (k := 2) cl4 (mkl hg (by decide) (by rfl)) (by decide) rfl rfl fl_X4_18 dX4_readSheet_81 rfl ?_
    refine mw_iload_n (n := 85) (q := 2) dX4_readSheet_84 rfl rfl rfl ?_
    refine mw_callV (n := 88) (a := 17) (As := [.int v2]) cl6 (mkl hg (by decide) (by rfl)) (t_X6_totalCount hg 17 v2 (mkl hg (by decide) (by rfl)) h) (by decide) ok_X6_totalCount rfl rfl lk_X4_40 im_X6_totalCount se_X6_totalCount dX4_readSheet_85 rfl rfl (Nat.le_of_ble_eq_true rfl) (fun q1 _ => ?_)
    show mw g l _ _ _ 88 _ [.int q1, .int v3] h _
    refine mw_icmp_ge (n := 91) (t := 136) dX4_readSheet_88 rfl (by decide) Iff.rfl (fun c2 => ?_) (fun c2 => ?_)
    · refine mw_iinc (n := 139) (q := 2) (v := (v2 + (1 : Int32))) dX4_readSheet_136 rfl rfl rfl (by decide) rfl ?_
      refine mw_goto (n := 72) dX4_readSheet_139 (by decide) ?_
      refine mw_sub [1, 2, 0] rfl ?_
      exact hself72 v1 (v2 + (1 : Int32)) h
    · refine mw_aload_n (n := 92) (q := 0) dX4_readSheet_91 rfl rfl rfl ?_
      refine mw_iload_n (n := 93) (q := 1) dX4_readSheet_92 rfl rfl rfl ?_
      refine mw_iconst (n := 94) (v := 0) dX4_readSheet_93 rfl (by decide) ?_
      refine mw_aload_n (n := 95) (q := 0) dX4_readSheet_94 rfl rfl rfl ?_
      refine mw_getr (n := 98) (a := 15) (k := 2) cl4 (mkl hg (by decide) (by rfl)) (by decide) rfl rfl fl_X4_18 dX4_readSheet_95 rfl ?_
      refine mw_iload_n (n := 99) (q := 2) dX4_readSheet_98 rfl rfl rfl ?_
      refine mw_callV (n := 102) (a := 17) (As := [.int v2]) cl6 (mkl hg (by decide) (by rfl)) (t_X6_mostTotal hg 17 v2 (mkl hg (by decide) (by rfl)) h) (by decide) ok_X6_mostTotal rfl rfl lk_X4_43 im_X6_mostTotal se_X6_mostTotal dX4_readSheet_99 rfl rfl (Nat.le_of_ble_eq_true rfl) (fun q3 _ => ?_)
      show mw g l _ _ _ 102 _ [.int q3, .int (0 : Int32), .int v1, .ref (mad g 15)] h _
      refine mw_callV (n := 105) (a := 15) (As := [.int v1, .int (0 : Int32), .int q3]) cl4 (mkl hg (by decide) (by rfl)) (t_X4_figureAt hg v1 (0 : Int32) q3 h) (by decide) ok_X4_figureAt rfl rfl lk_X4_30 im_X4_figureAt se_X4_figureAt dX4_readSheet_102 rfl rfl (Nat.le_of_ble_eq_true rfl) (fun q4 _ => ?_)
      show mw g l _ _ _ 105 _ [.int q4] h _
      refine mw_istore (n := 107) dX4_readSheet_105 rfl (by decide) rfl ?_
      refine mw_iload (n := 109) (q := 0) dX4_readSheet_107 rfl rfl ?_
      refine mw_bipush (n := 111) (v := -9) dX4_readSheet_109 rfl (by decide) ?_
      refine mw_icmp_ne (n := 114) (t := 116) dX4_readSheet_111 rfl (by decide) Iff.rfl (fun c5 => ?_) (fun c5 => ?_)
      · refine mw_aload_n (n := 117) (q := 1) dX4_readSheet_116 rfl rfl rfl ?_
        refine mw_getr (n := 120) (a := 15) (k := 2) cl4 (mkl hg (by decide) (by rfl)) (by decide) rfl rfl fl_X4_18 dX4_readSheet_117 rfl ?_
        refine mw_iload_n (n := 121) (q := 3) dX4_readSheet_120 rfl rfl rfl ?_
        refine mw_iload_n (n := 122) (q := 4) dX4_readSheet_121 rfl rfl rfl ?_
        refine mw_iload (n := 124) (q := 0) dX4_readSheet_122 rfl rfl ?_
        refine mw_callV (n := 127) (a := 17) (As := [.int v2, .int v3, .int q4]) cl6 (mkl hg (by decide) (by rfl)) (t_X6_putTotal hg 17 v2 v3 q4 (mkl hg (by decide) (by rfl)) h) (by decide) ok_X6_putTotal rfl rfl lk_X4_46 im_X6_putTotal se_X6_putTotal dX4_readSheet_124 rfl rfl (Nat.le_of_ble_eq_true rfl) (fun q6 _ => ?_)
        show mw g l _ _ _ 127 _ [] q6 _
        refine mw_iinc (n := 130) (q := 2) (v := (v1 + (1 : Int32))) dX4_readSheet_127 rfl rfl rfl (by decide) rfl ?_
        refine mw_iinc (n := 133) (q := 4) (v := (v3 + (1 : Int32))) dX4_readSheet_130 rfl rfl rfl (by decide) rfl ?_
        refine mw_goto (n := 79) dX4_readSheet_133 (by decide) ?_
        refine mw_sub [3, 1, 4, 0] rfl ?_
        exact hself79 (v1 + (1 : Int32)) (v3 + (1 : Int32)) q6
      · refine mw_iload_n (n := 115) (q := 2) dX4_readSheet_114 rfl rfl rfl ?_
        exact mw_iret dX4_readSheet_115 rfl rfl
noncomputable def x_X4_readSheet_72 (N : Nat) (f : Nat) : Int32 → Int32 → mH → Option (Int32 × mH) :=
  Nat.rec (motive := fun _ => Int32 → Int32 → mH → Option (Int32 × mH)) (fun _ _ _ => none) (fun _ self72 => fun v1 v2 h => 
    if (1 : Int32) < v2 then
      (x_X4_readPins N v1 h).bind fun q2 =>
      some (q2.1, q2.2)
    else
      x_X4_readSheet_79 N self72 v2 N v1 (0 : Int32) h) f
theorem x_X4_readSheet_72_0 (N : Nat) (v1 : Int32) (v2 : Int32) (h : mH) : x_X4_readSheet_72 N 0 v1 v2 h = none := rfl
theorem x_X4_readSheet_72_s (N : Nat) (f : Nat) (v1 : Int32) (v2 : Int32) (h : mH) : x_X4_readSheet_72 N (f + 1) v1 v2 h = (
    if (1 : Int32) < v2 then
      (x_X4_readPins N v1 h).bind fun q2 =>
      some (q2.1, q2.2)
    else
      x_X4_readSheet_79 N (x_X4_readSheet_72 N f) v2 N v1 (0 : Int32) h) := rfl
set_option maxRecDepth 20000 in
set_option maxHeartbeats 4000000 in
theorem b_X4_readSheet_72 {g : mG} {l : Launch} (hg : mOK g) (N : Nat) (f : Nat) : ∀ (v1 : Int32) (v2 : Int32) (h : mH), mw g l 3 mX4_readSheet (fun r : Int32 × mH => (some (Value.int r.1), r.2)) 72 [(0, .ref (mad g 15)), (1, .int v1), (2, .int v2)] [] h (x_X4_readSheet_72 N f v1 v2 h) := by
  induction f with
  | zero => intros; exact mw_none
  | succ f hself72 =>
    intro v1 v2 h
    refine mw_eq (x_X4_readSheet_72_s N f v1 v2 h) ?_
    generalize x_X4_readSheet_72 N f = self72 at hself72 ⊢
    refine mw_iload_n (n := 73) (q := 2) dX4_readSheet_72 rfl rfl rfl ?_
    refine mw_iconst (n := 74) (v := 1) dX4_readSheet_73 rfl (by decide) ?_
    refine mw_icmp_gt (n := 77) (t := 142) dX4_readSheet_74 rfl (by decide) Iff.rfl (fun c1 => ?_) (fun c1 => ?_)
    · refine mw_aload_n (n := 143) (q := 0) dX4_readSheet_142 rfl rfl rfl ?_
      refine mw_iload_n (n := 144) (q := 1) dX4_readSheet_143 rfl rfl rfl ?_
      refine mw_callV (n := 147) (a := 15) (As := [.int v1]) cl4 (mkl hg (by decide) (by rfl)) (t_X4_readPins hg N v1 h) (by decide) ok_X4_readPins rfl rfl lk_X4_50 im_X4_readPins se_X4_readPins dX4_readSheet_144 rfl rfl (Nat.le_of_ble_eq_true rfl) (fun q2 _ => ?_)
      show mw g l _ _ _ 147 _ [.int q2.1] q2.2 _
      exact mw_iret dX4_readSheet_147 rfl rfl
    · refine mw_iconst (n := 78) (v := 0) dX4_readSheet_77 rfl (by decide) ?_
      refine mw_istore_n (n := 79) dX4_readSheet_78 rfl rfl (by decide) rfl ?_
      refine mw_sub [1, 2, 3, 0] rfl ?_
      exact b_X4_readSheet_79 hg N v2 self72 hself72 N v1 (0 : Int32) h
noncomputable def x_X4_readSheet (N : Nat) (h : mH) : Option (Int32 × mH) :=
  (x_X4_letterAt (0 : Int32) h).bind fun q1 =>
  if q1 = (80 : Int32) then
    (x_X4_figureAt (1 : Int32) (1 : Int32) (4 : Int32) h).bind fun q3 =>
    mlet (msi h 17 0 q3) fun h4 =>
    if ¬ (mgi h4 17 0) = (-9 : Int32) then
      (x_X4_figureAt (2 : Int32) (1 : Int32) (5 : Int32) h4).bind fun q6 =>
      mlet (msi h4 17 1 q6) fun h7 =>
      if ¬ (mgi h7 17 1) = (-9 : Int32) then
        x_X4_readSheet_72 N N (3 : Int32) (0 : Int32) h7
      else
        some ((2 : Int32), h7)
    else
      some ((1 : Int32), h4)
  else
    some ((0 : Int32), h)
set_option maxRecDepth 20000 in
set_option maxHeartbeats 4000000 in
theorem t_X4_readSheet {g : mG} {l : Launch} (hg : mOK g) (N : Nat) (h : mH) : mf g l 3 mX4_readSheet (fun r : Int32 × mH => (some (Value.int r.1), r.2)) [.ref (mad g 15)] h (x_X4_readSheet N h) := by
  refine mf_of (by decide) (Nat.le_of_ble_eq_true rfl) ?_
  show mw g l 3 mX4_readSheet (fun r : Int32 × mH => (some (Value.int r.1), r.2)) 0 [(0, .ref (mad g 15))] [] h _
  unfold x_X4_readSheet
  refine mw_aload_n (n := 1) (q := 0) dX4_readSheet_0 rfl rfl rfl ?_
  refine mw_iconst (n := 2) (v := 0) dX4_readSheet_1 rfl (by decide) ?_
  refine mw_callV (n := 5) (a := 15) (As := [.int (0 : Int32)]) cl4 (mkl hg (by decide) (by rfl)) (t_X4_letterAt hg (0 : Int32) h) (by decide) ok_X4_letterAt rfl rfl lk_X4_26 im_X4_letterAt se_X4_letterAt dX4_readSheet_2 rfl rfl (Nat.le_of_ble_eq_true rfl) (fun q1 _ => ?_)
  show mw g l _ _ _ 5 _ [.int q1] h _
  refine mw_bipush (n := 7) (v := 80) dX4_readSheet_5 rfl (by decide) ?_
  refine mw_icmp_eq (n := 10) (t := 12) dX4_readSheet_7 rfl (by decide) Iff.rfl (fun c2 => ?_) (fun c2 => ?_)
  · refine mw_aload_n (n := 13) (q := 0) dX4_readSheet_12 rfl rfl rfl ?_
    refine mw_getr (n := 16) (a := 15) (k := 2) cl4 (mkl hg (by decide) (by rfl)) (by decide) rfl rfl fl_X4_18 dX4_readSheet_13 rfl ?_
    refine mw_aload_n (n := 17) (q := 0) dX4_readSheet_16 rfl rfl rfl ?_
    refine mw_iconst (n := 18) (v := 1) dX4_readSheet_17 rfl (by decide) ?_
    refine mw_iconst (n := 19) (v := 1) dX4_readSheet_18 rfl (by decide) ?_
    refine mw_iconst (n := 20) (v := 4) dX4_readSheet_19 rfl (by decide) ?_
    refine mw_callV (n := 23) (a := 15) (As := [.int (1 : Int32), .int (1 : Int32), .int (4 : Int32)]) cl4 (mkl hg (by decide) (by rfl)) (t_X4_figureAt hg (1 : Int32) (1 : Int32) (4 : Int32) h) (by decide) ok_X4_figureAt rfl rfl lk_X4_30 im_X4_figureAt se_X4_figureAt dX4_readSheet_20 rfl rfl (Nat.le_of_ble_eq_true rfl) (fun q3 _ => ?_)
    show mw g l _ _ _ 23 _ [.int q3, .ref (mad g 17)] h _
    refine mw_puti (n := 26) (a := 17) (k := 0) cl6 ct6 (mkl hg (by decide) (by rfl)) (by decide) rfl rfl rfl rfl fl_X4_34 dX4_readSheet_23 rfl (mw_leth (fun h4 => ?_))
    refine mw_aload_n (n := 27) (q := 0) dX4_readSheet_26 rfl rfl rfl ?_
    refine mw_getr (n := 30) (a := 15) (k := 2) cl4 (mkl hg (by decide) (by rfl)) (by decide) rfl rfl fl_X4_18 dX4_readSheet_27 rfl ?_
    refine mw_geti (n := 33) (a := 17) (k := 0) cl6 (mkl hg (by decide) (by rfl)) (by decide) rfl rfl fl_X4_34 dX4_readSheet_30 rfl ?_
    refine mw_bipush (n := 35) (v := -9) dX4_readSheet_33 rfl (by decide) ?_
    refine mw_icmp_ne (n := 38) (t := 40) dX4_readSheet_35 rfl (by decide) Iff.rfl (fun c5 => ?_) (fun c5 => ?_)
    · refine mw_aload_n (n := 41) (q := 0) dX4_readSheet_40 rfl rfl rfl ?_
      refine mw_getr (n := 44) (a := 15) (k := 2) cl4 (mkl hg (by decide) (by rfl)) (by decide) rfl rfl fl_X4_18 dX4_readSheet_41 rfl ?_
      refine mw_aload_n (n := 45) (q := 0) dX4_readSheet_44 rfl rfl rfl ?_
      refine mw_iconst (n := 46) (v := 2) dX4_readSheet_45 rfl (by decide) ?_
      refine mw_iconst (n := 47) (v := 1) dX4_readSheet_46 rfl (by decide) ?_
      refine mw_iconst (n := 48) (v := 5) dX4_readSheet_47 rfl (by decide) ?_
      refine mw_callV (n := 51) (a := 15) (As := [.int (2 : Int32), .int (1 : Int32), .int (5 : Int32)]) cl4 (mkl hg (by decide) (by rfl)) (t_X4_figureAt hg (2 : Int32) (1 : Int32) (5 : Int32) h4) (by decide) ok_X4_figureAt rfl rfl lk_X4_30 im_X4_figureAt se_X4_figureAt dX4_readSheet_48 rfl rfl (Nat.le_of_ble_eq_true rfl) (fun q6 _ => ?_)
      show mw g l _ _ _ 51 _ [.int q6, .ref (mad g 17)] h4 _
      refine mw_puti (n := 54) (a := 17) (k := 1) cl6 ct6 (mkl hg (by decide) (by rfl)) (by decide) rfl rfl rfl rfl fl_X4_37 dX4_readSheet_51 rfl (mw_leth (fun h7 => ?_))
      refine mw_aload_n (n := 55) (q := 0) dX4_readSheet_54 rfl rfl rfl ?_
      refine mw_getr (n := 58) (a := 15) (k := 2) cl4 (mkl hg (by decide) (by rfl)) (by decide) rfl rfl fl_X4_18 dX4_readSheet_55 rfl ?_
      refine mw_geti (n := 61) (a := 17) (k := 1) cl6 (mkl hg (by decide) (by rfl)) (by decide) rfl rfl fl_X4_37 dX4_readSheet_58 rfl ?_
      refine mw_bipush (n := 63) (v := -9) dX4_readSheet_61 rfl (by decide) ?_
      refine mw_icmp_ne (n := 66) (t := 68) dX4_readSheet_63 rfl (by decide) Iff.rfl (fun c8 => ?_) (fun c8 => ?_)
      · refine mw_iconst (n := 69) (v := 3) dX4_readSheet_68 rfl (by decide) ?_
        refine mw_istore_n (n := 70) dX4_readSheet_69 rfl rfl (by decide) rfl ?_
        refine mw_iconst (n := 71) (v := 0) dX4_readSheet_70 rfl (by decide) ?_
        refine mw_istore_n (n := 72) dX4_readSheet_71 rfl rfl (by decide) rfl ?_
        refine mw_sub [2, 1, 0] rfl ?_
        exact b_X4_readSheet_72 hg N N (3 : Int32) (0 : Int32) h7
      · refine mw_iconst (n := 67) (v := 2) dX4_readSheet_66 rfl (by decide) ?_
        exact mw_iret dX4_readSheet_67 rfl rfl
    · refine mw_iconst (n := 39) (v := 1) dX4_readSheet_38 rfl (by decide) ?_
      exact mw_iret dX4_readSheet_39 rfl rfl
  · refine mw_iconst (n := 11) (v := 0) dX4_readSheet_10 rfl (by decide) ?_
    exact mw_iret dX4_readSheet_11 rfl rfl
