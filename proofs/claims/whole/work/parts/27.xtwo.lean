noncomputable def x_X8_write (p0 : Int32) (h : mH) : Option (Int32 × mH) :=
  if p0 < 0 then
    some ((-2 : Int32), h)
  else
    if p0 ≤ (255 : Int32) then
      (x_X4_append p0 h).bind fun q3 =>
      some ((if q3.1 = 0 then (-4 : Int32) else (mgi q3.2 15 1)), q3.2)
    else
      some ((-2 : Int32), h)
set_option maxRecDepth 20000 in
set_option maxHeartbeats 4000000 in
theorem t_X8_write {g : mG} {l : Launch} (hg : mOK g) (p0 : Int32) (h : mH) : mf g l 1 mX8_write (fun r : Int32 × mH => (some (Value.int r.1), r.2)) [.ref (mad g 0), .int p0] h (x_X8_write p0 h) := by
  refine mf_of (by decide) (Nat.le_of_ble_eq_true rfl) ?_
  show mw g l 1 mX8_write (fun r : Int32 × mH => (some (Value.int r.1), r.2)) 0 [(0, .ref (mad g 0)), (1, .int p0)] [] h _
  unfold x_X8_write
  refine mw_iload_n (n := 1) (q := 1) dX8_write_0 rfl rfl rfl ?_
  refine mw_if_lt (n := 4) (t := 11) dX8_write_1 rfl (by decide) Iff.rfl (fun c1 => ?_) (fun c1 => ?_)
  · refine mw_bipush (n := 13) (v := -2) dX8_write_11 rfl (by decide) ?_
    exact mw_iret dX8_write_13 rfl rfl
  · refine mw_iload_n (n := 5) (q := 1) dX8_write_4 rfl rfl rfl ?_
    refine mw_sipush (n := 8) (v := 255) dX8_write_5 rfl (by decide) ?_
    refine mw_icmp_le (n := 11) (t := 14) dX8_write_8 rfl (by decide) Iff.rfl (fun c2 => ?_) (fun c2 => ?_)
    · refine mw_aload_n (n := 15) (q := 0) dX8_write_14 rfl rfl rfl ?_
      refine mw_getr (n := 18) (a := 0) (k := 2) cl8 (mkl hg (by decide) (by rfl)) (by decide) rfl rfl fl_X8_22 dX8_write_15 rfl ?_
      refine mw_iload_n (n := 19) (q := 1) dX8_write_18 rfl rfl rfl ?_
      refine mw_callV (n := 22) (a := 15) (As := [.int p0]) cl4 (mkl hg (by decide) (by rfl)) (t_X4_append hg p0 h) (by decide) ok_X4_append rfl rfl lk_X8_68 im_X4_append se_X4_append dX8_write_19 rfl rfl (Nat.le_of_ble_eq_true rfl) (fun q3 _ => ?_)
      show mw g l _ _ _ 22 _ [.int q3.1] q3.2 _
      refine mw_cutJ (pc' := 37) (lv' := [(0, .ref (mad g 0)), (1, .int p0)]) (st' := [.int (if q3.1 = 0 then (-4 : Int32) else (mgi q3.2 15 1))]) (fun J => ?_) ?_
      · refine mw_if_eq_m (n := 25) (t := 35) dX8_write_22 rfl (by decide) (fun c4 => ?_) (fun c4 => ?_)
        · refine mw_bipush (n := 37) (v := -4) dX8_write_35 rfl (by decide) ?_
          exact mw_topeq (if_pos c4).symm J
        · refine mw_aload_n (n := 26) (q := 0) dX8_write_25 rfl rfl rfl ?_
          refine mw_getr (n := 29) (a := 0) (k := 2) cl8 (mkl hg (by decide) (by rfl)) (by decide) rfl rfl fl_X8_22 dX8_write_26 rfl ?_
          refine mw_geti (n := 32) (a := 15) (k := 1) cl4 (mkl hg (by decide) (by rfl)) (by decide) rfl rfl fl_X8_72 dX8_write_29 rfl ?_
          refine mw_goto (n := 37) dX8_write_32 (by decide) ?_
          exact mw_topeq (if_neg c4).symm J
      exact mw_iret dX8_write_37 rfl rfl
    · refine mw_bipush (n := 13) (v := -2) dX8_write_11 rfl (by decide) ?_
      exact mw_iret dX8_write_13 rfl rfl
noncomputable def x_X8_wipe (h : mH) : Option (Int32 × mH) :=
  mlet (mgi h 15 1) fun u1 =>
  mlet (msi h 15 1 (0 : Int32)) fun h2 =>
  some (u1, h2)
set_option maxRecDepth 20000 in
set_option maxHeartbeats 4000000 in
theorem t_X8_wipe {g : mG} {l : Launch} (hg : mOK g) (h : mH) : mf g l 0 mX8_wipe (fun r : Int32 × mH => (some (Value.int r.1), r.2)) [.ref (mad g 0)] h (x_X8_wipe h) := by
  refine mf_of (by decide) (Nat.le_of_ble_eq_true rfl) ?_
  show mw g l 0 mX8_wipe (fun r : Int32 × mH => (some (Value.int r.1), r.2)) 0 [(0, .ref (mad g 0))] [] h _
  unfold x_X8_wipe
  refine mw_aload_n (n := 1) (q := 0) dX8_wipe_0 rfl rfl rfl ?_
  refine mw_getr (n := 4) (a := 0) (k := 2) cl8 (mkl hg (by decide) (by rfl)) (by decide) rfl rfl fl_X8_22 dX8_wipe_1 rfl ?_
  refine mw_geti (n := 7) (a := 15) (k := 1) cl4 (mkl hg (by decide) (by rfl)) (by decide) rfl rfl fl_X8_72 dX8_wipe_4 rfl ?_
  refine mw_letI (fun u1 => ?_)
  refine mw_istore_n (n := 8) dX8_wipe_7 rfl rfl (by decide) rfl ?_
  refine mw_aload_n (n := 9) (q := 1) dX8_wipe_8 rfl rfl rfl ?_
  refine mw_getr (n := 12) (a := 0) (k := 2) cl8 (mkl hg (by decide) (by rfl)) (by decide) rfl rfl fl_X8_22 dX8_wipe_9 rfl ?_
  refine mw_iconst (n := 13) (v := 0) dX8_wipe_12 rfl (by decide) ?_
  refine mw_puti (n := 16) (a := 15) (k := 1) cl4 ct4 (mkl hg (by decide) (by rfl)) (by decide) rfl rfl rfl rfl fl_X8_72 dX8_wipe_13 rfl (mw_leth (fun h2 => ?_))
  refine mw_iload_n (n := 17) (q := 0) dX8_wipe_16 rfl rfl rfl ?_
  exact mw_iret dX8_wipe_17 rfl rfl
noncomputable def x_X8_fault (N : Nat) (h : mH) : Option (Int32 × mH) :=
  (x_X4_readSheet N h).bind fun q1 =>
  some (q1.1, q1.2)
set_option maxRecDepth 20000 in
set_option maxHeartbeats 4000000 in
theorem t_X8_fault {g : mG} {l : Launch} (hg : mOK g) (N : Nat) (h : mH) : mf g l 4 mX8_fault (fun r : Int32 × mH => (some (Value.int r.1), r.2)) [.ref (mad g 0)] h (x_X8_fault N h) := by
  refine mf_of (by decide) (Nat.le_of_ble_eq_true rfl) ?_
  show mw g l 4 mX8_fault (fun r : Int32 × mH => (some (Value.int r.1), r.2)) 0 [(0, .ref (mad g 0))] [] h _
  unfold x_X8_fault
  refine mw_aload_n (n := 1) (q := 0) dX8_fault_0 rfl rfl rfl ?_
  refine mw_getr (n := 4) (a := 0) (k := 2) cl8 (mkl hg (by decide) (by rfl)) (by decide) rfl rfl fl_X8_22 dX8_fault_1 rfl ?_
  refine mw_callV (n := 7) (a := 15) (As := []) cl4 (mkl hg (by decide) (by rfl)) (t_X4_readSheet hg N h) (by decide) ok_X4_readSheet rfl rfl lk_X8_76 im_X4_readSheet se_X4_readSheet dX8_fault_4 rfl rfl (Nat.le_of_ble_eq_true rfl) (fun q1 _ => ?_)
  show mw g l _ _ _ 7 _ [.int q1.1] q1.2 _
  exact mw_iret dX8_fault_7 rfl rfl
noncomputable def x_X8_sheet_60 (N : Nat) (f : Nat) : Int32 → mH → Option (Int32 × mH) :=
  Nat.rec (motive := fun _ => Int32 → mH → Option (Int32 × mH)) (fun _ _ => none) (fun _ self60 => fun v1 h => 
    if (2 : Int32) ≤ v1 then
      some ((mgi h 5 3), h)
    else
      mck v1 2 <|
      mlet (msi h 75 (v1).toNatClampNeg (0 : Int32)) fun h2 =>
      self60 (v1 + (1 : Int32)) h2) f
theorem x_X8_sheet_60_0 (N : Nat) (v1 : Int32) (h : mH) : x_X8_sheet_60 N 0 v1 h = none := rfl
theorem x_X8_sheet_60_s (N : Nat) (f : Nat) (v1 : Int32) (h : mH) : x_X8_sheet_60 N (f + 1) v1 h = (
    if (2 : Int32) ≤ v1 then
      some ((mgi h 5 3), h)
    else
      mck v1 2 <|
      mlet (msi h 75 (v1).toNatClampNeg (0 : Int32)) fun h2 =>
      (x_X8_sheet_60 N f) (v1 + (1 : Int32)) h2) := rfl
set_option maxRecDepth 20000 in
set_option maxHeartbeats 4000000 in
theorem b_X8_sheet_60 {g : mG} {l : Launch} (hg : mOK g) (N : Nat) (f : Nat) : ∀ (v1 : Int32) (h : mH), mw g l 10 mX8_sheet (fun r : Int32 × mH => (some (Value.int r.1), r.2)) 60 [(0, .ref (mad g 0)), (1, .int v1)] [] h (x_X8_sheet_60 N f v1 h) := by
  induction f with
  | zero => intros; exact mw_none
  | succ f hself60 =>
    intro v1 h
    refine mw_eq (x_X8_sheet_60_s N f v1 h) ?_
    generalize x_X8_sheet_60 N f = self60 at hself60 ⊢
    refine mw_iload_n (n := 61) (q := 1) dX8_sheet_60 rfl rfl rfl ?_
    refine mw_iconst (n := 62) (v := 2) dX8_sheet_61 rfl (by decide) ?_
    refine mw_icmp_ge (n := 65) (t := 78) dX8_sheet_62 rfl (by decide) Iff.rfl (fun c1 => ?_) (fun c1 => ?_)
    · refine mw_aload_n (n := 79) (q := 0) dX8_sheet_78 rfl rfl rfl ?_
      refine mw_getr (n := 82) (a := 0) (k := 0) cl8 (mkl hg (by decide) (by rfl)) (by decide) rfl rfl fl_X8_10 dX8_sheet_79 rfl ?_
      refine mw_getr (n := 85) (a := 1) (k := 1) cl2 (mkl hg (by decide) (by rfl)) (by decide) rfl rfl fl_X8_95 dX8_sheet_82 rfl ?_
      refine mw_geti (n := 88) (a := 5) (k := 3) cl1 (mkl hg (by decide) (by rfl)) (by decide) rfl rfl fl_X8_99 dX8_sheet_85 rfl ?_
      exact mw_iret dX8_sheet_88 rfl rfl
    · refine mw_aload_n (n := 66) (q := 0) dX8_sheet_65 rfl rfl rfl ?_
      refine mw_getr (n := 69) (a := 0) (k := 8) cl8 (mkl hg (by decide) (by rfl)) (by decide) rfl rfl fl_X8_60 dX8_sheet_66 rfl ?_
      refine mw_iload_n (n := 70) (q := 1) dX8_sheet_69 rfl rfl rfl ?_
      refine mw_iconst (n := 71) (v := 0) dX8_sheet_70 rfl (by decide) ?_
      refine mw_zast (n := 72) (a := 75) (mkl hg (by decide) (by rfl)) (by decide) dX8_sheet_71 rfl (mw_leth (fun h2 => ?_))
      refine mw_iinc (n := 75) (q := 1) (v := (v1 + (1 : Int32))) dX8_sheet_72 rfl rfl rfl (by decide) rfl ?_
      refine mw_goto (n := 60) dX8_sheet_75 (by decide) ?_
      refine mw_sub [1, 0] rfl ?_
      exact hself60 (v1 + (1 : Int32)) h2
noncomputable def x_X8_sheet (N : Nat) (h : mH) : Option (Int32 × mH) :=
  (x_X4_readSheet N h).bind fun q1 =>
  if q1.1 = (-9 : Int32) then
    (x_X6_become 2 17 q1.2).bind fun q3 =>
    mlet (msi q3 2 6 (-1 : Int32)) fun h4 =>
    (x_X2_settle N 1 h4).bind fun q5 =>
    mlet (msi q5 20 2 (0 : Int32)) fun h6 =>
    x_X8_sheet_60 N N (0 : Int32) h6
  else
    some ((-3 : Int32), q1.2)
set_option maxRecDepth 20000 in
set_option maxHeartbeats 4000000 in
theorem t_X8_sheet {g : mG} {l : Launch} (hg : mOK g) (N : Nat) (h : mH) : mf g l 10 mX8_sheet (fun r : Int32 × mH => (some (Value.int r.1), r.2)) [.ref (mad g 0)] h (x_X8_sheet N h) := by
  refine mf_of (by decide) (Nat.le_of_ble_eq_true rfl) ?_
  show mw g l 10 mX8_sheet (fun r : Int32 × mH => (some (Value.int r.1), r.2)) 0 [(0, .ref (mad g 0))] [] h _
  unfold x_X8_sheet
  refine mw_aload_n (n := 1) (q := 0) dX8_sheet_0 rfl rfl rfl ?_
  refine mw_getr (n := 4) (a := 0) (k := 2) cl8 (mkl hg (by decide) (by rfl)) (by decide) rfl rfl fl_X8_22 dX8_sheet_1 rfl ?_
  refine mw_callV (n := 7) (a := 15) (As := []) cl4 (mkl hg (by decide) (by rfl)) (t_X4_readSheet hg N h) (by decide) ok_X4_readSheet rfl rfl lk_X8_76 im_X4_readSheet se_X4_readSheet dX8_sheet_4 rfl rfl (Nat.le_of_ble_eq_true rfl) (fun q1 _ => ?_)
  show mw g l _ _ _ 7 _ [.int q1.1] q1.2 _
  refine mw_bipush (n := 9) (v := -9) dX8_sheet_7 rfl (by decide) ?_
  refine mw_icmp_eq (n := 12) (t := 15) dX8_sheet_9 rfl (by decide) Iff.rfl (fun c2 => ?_) (fun c2 => ?_)
  · refine mw_aload_n (n := 16) (q := 0) dX8_sheet_15 rfl rfl rfl ?_
    refine mw_getr (n := 19) (a := 0) (k := 0) cl8 (mkl hg (by decide) (by rfl)) (by decide) rfl rfl fl_X8_10 dX8_sheet_16 rfl ?_
    refine mw_getr (n := 22) (a := 1) (k := 0) cl2 (mkl hg (by decide) (by rfl)) (by decide) rfl rfl fl_X8_80 dX8_sheet_19 rfl ?_
    refine mw_aload_n (n := 23) (q := 0) dX8_sheet_22 rfl rfl rfl ?_
    refine mw_getr (n := 26) (a := 0) (k := 2) cl8 (mkl hg (by decide) (by rfl)) (by decide) rfl rfl fl_X8_22 dX8_sheet_23 rfl ?_
    refine mw_getr (n := 29) (a := 15) (k := 2) cl4 (mkl hg (by decide) (by rfl)) (by decide) rfl rfl fl_X8_84 dX8_sheet_26 rfl ?_
    refine mw_callV (n := 32) (a := 2) (As := [.ref (mad g 17)]) cl6 (mkl hg (by decide) (by rfl)) (t_X6_become hg 2 17 (mkl hg (by decide) (by rfl)) (mkl hg (by decide) (by rfl)) q1.2) (by decide) ok_X6_become rfl rfl lk_X8_87 im_X6_become se_X6_become dX8_sheet_29 rfl rfl (Nat.le_of_ble_eq_true rfl) (fun q3 _ => ?_)
    show mw g l _ _ _ 32 _ [] q3 _
    refine mw_aload_n (n := 33) (q := 0) dX8_sheet_32 rfl rfl rfl ?_
    refine mw_getr (n := 36) (a := 0) (k := 0) cl8 (mkl hg (by decide) (by rfl)) (by decide) rfl rfl fl_X8_10 dX8_sheet_33 rfl ?_
    refine mw_getr (n := 39) (a := 1) (k := 0) cl2 (mkl hg (by decide) (by rfl)) (by decide) rfl rfl fl_X8_80 dX8_sheet_36 rfl ?_
    refine mw_iconst (n := 40) (v := -1) dX8_sheet_39 rfl (by decide) ?_
    refine mw_puti (n := 43) (a := 2) (k := 6) cl6 ct6 (mkl hg (by decide) (by rfl)) (by decide) rfl rfl rfl rfl fl_X8_91 dX8_sheet_40 rfl (mw_leth (fun h4 => ?_))
    refine mw_aload_n (n := 44) (q := 0) dX8_sheet_43 rfl rfl rfl ?_
    refine mw_getr (n := 47) (a := 0) (k := 0) cl8 (mkl hg (by decide) (by rfl)) (by decide) rfl rfl fl_X8_10 dX8_sheet_44 rfl ?_
    refine mw_callV (n := 50) (a := 1) (As := []) cl2 (mkl hg (by decide) (by rfl)) (t_X2_settle hg N 1 (mkl hg (by decide) (by rfl)) h4) (by decide) ok_X2_settle rfl rfl lk_X8_65 im_X2_settle se_X2_settle dX8_sheet_47 rfl rfl (Nat.le_of_ble_eq_true rfl) (fun q5 _ => ?_)
    show mw g l _ _ _ 50 _ [] q5 _
    refine mw_aload_n (n := 51) (q := 0) dX8_sheet_50 rfl rfl rfl ?_
    refine mw_getr (n := 54) (a := 0) (k := 3) cl8 (mkl hg (by decide) (by rfl)) (by decide) rfl rfl fl_X8_29 dX8_sheet_51 rfl ?_
    refine mw_iconst (n := 55) (v := 0) dX8_sheet_54 rfl (by decide) ?_
    refine mw_puti (n := 58) (a := 20) (k := 2) cl0 ct0 (mkl hg (by decide) (by rfl)) (by decide) rfl rfl rfl rfl fl_X8_94 dX8_sheet_55 rfl (mw_leth (fun h6 => ?_))
    refine mw_iconst (n := 59) (v := 0) dX8_sheet_58 rfl (by decide) ?_
    refine mw_istore_n (n := 60) dX8_sheet_59 rfl rfl (by decide) rfl ?_
    refine mw_sub [1, 0] rfl ?_
    exact b_X8_sheet_60 hg N N (0 : Int32) h6
  · refine mw_bipush (n := 14) (v := -3) dX8_sheet_12 rfl (by decide) ?_
    exact mw_iret dX8_sheet_14 rfl rfl
noncomputable def x_X8_total_12 (v1 : Int32) (v2 : Int32) (h : mH) : Option (Int32) :=
  (x_X6_hasTotal 2 v1 v2 h).bind fun q1 =>
  if q1 = 0 then
    some (-1 : Int32)
  else
    (x_X6_totalOf 2 v1 v2 h).bind fun q3 =>
    some q3
set_option maxRecDepth 20000 in
set_option maxHeartbeats 4000000 in
theorem b_X8_total_12 {g : mG} {l : Launch} (hg : mOK g) (v1 : Int32) (v2 : Int32) (h : mH) : mw g l 2 mX8_total (fun r : Int32 => (some (Value.int r), h)) 12 [(0, .ref (mad g 0)), (1, .int v1), (2, .int v2)] [] h (x_X8_total_12 v1 v2 h) := by
  unfold x_X8_total_12
  refine mw_aload_n (n := 13) (q := 0) dX8_total_12 rfl rfl rfl ?_
  refine mw_getr (n := 16) (a := 0) (k := 0) cl8 (mkl hg (by decide) (by rfl)) (by decide) rfl rfl fl_X8_10 dX8_total_13 rfl ?_
  refine mw_getr (n := 19) (a := 1) (k := 0) cl2 (mkl hg (by decide) (by rfl)) (by decide) rfl rfl fl_X8_80 dX8_total_16 rfl ?_
  refine mw_iload_n (n := 20) (q := 1) dX8_total_19 rfl rfl rfl ?_
  refine mw_iload_n (n := 21) (q := 2) dX8_total_20 rfl rfl rfl ?_
  refine mw_callV (n := 24) (a := 2) (As := [.int v1, .int v2]) cl6 (mkl hg (by decide) (by rfl)) (t_X6_hasTotal hg 2 v1 v2 (mkl hg (by decide) (by rfl)) h) (by decide) ok_X6_hasTotal rfl rfl lk_X8_104 im_X6_hasTotal se_X6_hasTotal dX8_total_21 rfl rfl (Nat.le_of_ble_eq_true rfl) (fun q1 _ => ?_)
  show mw g l _ _ _ 24 _ [.int q1] h _
  refine mw_if_eq (n := 27) (t := 42) dX8_total_24 rfl (by decide) Iff.rfl (fun c2 => ?_) (fun c2 => ?_)
  · refine mw_iconst (n := 43) (v := -1) dX8_total_42 rfl (by decide) ?_
    exact mw_iret dX8_total_43 rfl rfl
  · refine mw_aload_n (n := 28) (q := 0) dX8_total_27 rfl rfl rfl ?_
    refine mw_getr (n := 31) (a := 0) (k := 0) cl8 (mkl hg (by decide) (by rfl)) (by decide) rfl rfl fl_X8_10 dX8_total_28 rfl ?_
    refine mw_getr (n := 34) (a := 1) (k := 0) cl2 (mkl hg (by decide) (by rfl)) (by decide) rfl rfl fl_X8_80 dX8_total_31 rfl ?_
    refine mw_iload_n (n := 35) (q := 1) dX8_total_34 rfl rfl rfl ?_
    refine mw_iload_n (n := 36) (q := 2) dX8_total_35 rfl rfl rfl ?_
    refine mw_callV (n := 39) (a := 2) (As := [.int v1, .int v2]) cl6 (mkl hg (by decide) (by rfl)) (t_X6_totalOf hg 2 v1 v2 (mkl hg (by decide) (by rfl)) h) (by decide) ok_X6_totalOf rfl rfl lk_X8_108 im_X6_totalOf se_X6_totalOf dX8_total_36 rfl rfl (Nat.le_of_ble_eq_true rfl) (fun q3 _ => ?_)
    show mw g l _ _ _ 39 _ [.int q3] h _
    refine mw_goto (n := 43) dX8_total_39 (by decide) ?_
    exact mw_iret dX8_total_43 rfl rfl
noncomputable def x_X8_total (p0 : Int32) (p1 : Int32) (h : mH) : Option (Int32) :=
  if p0 = 0 then
    x_X8_total_12 p0 p1 h
  else
    if p0 = (1 : Int32) then
      x_X8_total_12 p0 p1 h
    else
      some (-2 : Int32)
set_option maxRecDepth 20000 in
set_option maxHeartbeats 4000000 in
theorem t_X8_total {g : mG} {l : Launch} (hg : mOK g) (p0 : Int32) (p1 : Int32) (h : mH) : mf g l 2 mX8_total (fun r : Int32 => (some (Value.int r), h)) [.ref (mad g 0), .int p0, .int p1] h (x_X8_total p0 p1 h) := by
  refine mf_of (by decide) (Nat.le_of_ble_eq_true rfl) ?_
  show mw g l 2 mX8_total (fun r : Int32 => (some (Value.int r), h)) 0 [(0, .ref (mad g 0)), (1, .int p0), (2, .int p1)] [] h _
  unfold x_X8_total
  refine mw_iload_n (n := 1) (q := 1) dX8_total_0 rfl rfl rfl ?_
  refine mw_if_eq (n := 4) (t := 12) dX8_total_1 rfl (by decide) Iff.rfl (fun c1 => ?_) (fun c1 => ?_)
  · exact b_X8_total_12 hg p0 p1 h
  · refine mw_iload_n (n := 5) (q := 1) dX8_total_4 rfl rfl rfl ?_
    refine mw_iconst (n := 6) (v := 1) dX8_total_5 rfl (by decide) ?_
    refine mw_icmp_eq (n := 9) (t := 12) dX8_total_6 rfl (by decide) Iff.rfl (fun c2 => ?_) (fun c2 => ?_)
    · exact b_X8_total_12 hg p0 p1 h
    · refine mw_bipush (n := 11) (v := -2) dX8_total_9 rfl (by decide) ?_
      exact mw_iret dX8_total_11 rfl rfl
noncomputable def x_X8_pin (p0 : Int32) (h : mH) : Option (Int32) :=
  (x_X6_hasCell 2 p0 h).bind fun q1 =>
  if q1 = 0 then
    some (-1 : Int32)
  else
    (x_X6_pinOf 2 p0 h).bind fun q3 =>
    some q3
set_option maxRecDepth 20000 in
set_option maxHeartbeats 4000000 in
theorem t_X8_pin {g : mG} {l : Launch} (hg : mOK g) (p0 : Int32) (h : mH) : mf g l 2 mX8_pin (fun r : Int32 => (some (Value.int r), h)) [.ref (mad g 0), .int p0] h (x_X8_pin p0 h) := by
  refine mf_of (by decide) (Nat.le_of_ble_eq_true rfl) ?_
  show mw g l 2 mX8_pin (fun r : Int32 => (some (Value.int r), h)) 0 [(0, .ref (mad g 0)), (1, .int p0)] [] h _
  unfold x_X8_pin
  refine mw_aload_n (n := 1) (q := 0) dX8_pin_0 rfl rfl rfl ?_
  refine mw_getr (n := 4) (a := 0) (k := 0) cl8 (mkl hg (by decide) (by rfl)) (by decide) rfl rfl fl_X8_10 dX8_pin_1 rfl ?_
  refine mw_getr (n := 7) (a := 1) (k := 0) cl2 (mkl hg (by decide) (by rfl)) (by decide) rfl rfl fl_X8_80 dX8_pin_4 rfl ?_
  refine mw_iload_n (n := 8) (q := 1) dX8_pin_7 rfl rfl rfl ?_
  refine mw_callV (n := 11) (a := 2) (As := [.int p0]) cl6 (mkl hg (by decide) (by rfl)) (t_X6_hasCell hg 2 p0 (mkl hg (by decide) (by rfl)) h) (by decide) ok_X6_hasCell rfl rfl lk_X8_112 im_X6_hasCell se_X6_hasCell dX8_pin_8 rfl rfl (Nat.le_of_ble_eq_true rfl) (fun q1 _ => ?_)
  show mw g l _ _ _ 11 _ [.int q1] h _
  refine mw_if_eq (n := 14) (t := 28) dX8_pin_11 rfl (by decide) Iff.rfl (fun c2 => ?_) (fun c2 => ?_)
  · refine mw_iconst (n := 29) (v := -1) dX8_pin_28 rfl (by decide) ?_
    exact mw_iret dX8_pin_29 rfl rfl
  · refine mw_aload_n (n := 15) (q := 0) dX8_pin_14 rfl rfl rfl ?_
    refine mw_getr (n := 18) (a := 0) (k := 0) cl8 (mkl hg (by decide) (by rfl)) (by decide) rfl rfl fl_X8_10 dX8_pin_15 rfl ?_
    refine mw_getr (n := 21) (a := 1) (k := 0) cl2 (mkl hg (by decide) (by rfl)) (by decide) rfl rfl fl_X8_80 dX8_pin_18 rfl ?_
    refine mw_iload_n (n := 22) (q := 1) dX8_pin_21 rfl rfl rfl ?_
    refine mw_callV (n := 25) (a := 2) (As := [.int p0]) cl6 (mkl hg (by decide) (by rfl)) (t_X6_pinOf hg 2 p0 (mkl hg (by decide) (by rfl)) h) (by decide) ok_X6_pinOf rfl rfl lk_X8_115 im_X6_pinOf se_X6_pinOf dX8_pin_22 rfl rfl (Nat.le_of_ble_eq_true rfl) (fun q3 _ => ?_)
    show mw g l _ _ _ 25 _ [.int q3] h _
    refine mw_goto (n := 29) dX8_pin_25 (by decide) ?_
    exact mw_iret dX8_pin_29 rfl rfl
noncomputable def x_X8_test (N : Nat) (h : mH) : Option (Int32 × mH) :=
  (x_X3_failsAt N 2 h).bind fun q1 =>
  some (q1.1, q1.2)
set_option maxRecDepth 20000 in
set_option maxHeartbeats 4000000 in
theorem t_X8_test {g : mG} {l : Launch} (hg : mOK g) (N : Nat) (h : mH) : mf g l 3 mX8_test (fun r : Int32 × mH => (some (Value.int r.1), r.2)) [.ref (mad g 0)] h (x_X8_test N h) := by
  refine mf_of (by decide) (Nat.le_of_ble_eq_true rfl) ?_
  show mw g l 3 mX8_test (fun r : Int32 × mH => (some (Value.int r.1), r.2)) 0 [(0, .ref (mad g 0))] [] h _
  unfold x_X8_test
  refine mw_aload_n (n := 1) (q := 0) dX8_test_0 rfl rfl rfl ?_
  refine mw_getr (n := 4) (a := 0) (k := 4) cl8 (mkl hg (by decide) (by rfl)) (by decide) rfl rfl fl_X8_36 dX8_test_1 rfl ?_
  refine mw_aload_n (n := 5) (q := 0) dX8_test_4 rfl rfl rfl ?_
  refine mw_getr (n := 8) (a := 0) (k := 0) cl8 (mkl hg (by decide) (by rfl)) (by decide) rfl rfl fl_X8_10 dX8_test_5 rfl ?_
  refine mw_getr (n := 11) (a := 1) (k := 0) cl2 (mkl hg (by decide) (by rfl)) (by decide) rfl rfl fl_X8_80 dX8_test_8 rfl ?_
  refine mw_callV (n := 14) (a := 64) (As := [.ref (mad g 2)]) cl3 (mkl hg (by decide) (by rfl)) (t_X3_failsAt hg N 2 (mkl hg (by decide) (by rfl)) h) (by decide) ok_X3_failsAt rfl rfl lk_X8_119 im_X3_failsAt se_X3_failsAt dX8_test_11 rfl rfl (Nat.le_of_ble_eq_true rfl) (fun q1 _ => ?_)
  show mw g l _ _ _ 14 _ [.int q1.1] q1.2 _
  exact mw_iret dX8_test_14 rfl rfl
noncomputable def x_X8_filled (N : Nat) (p0 : Int32) (h : mH) : Option (Int32 × mH) :=
  (x_X6_hasCell 2 p0 h).bind fun q1 =>
  if ¬ q1 = 0 then
    (x_X3_failsAt N 2 h).bind fun q3 =>
    if q3.1 = (-9 : Int32) then
      (x_X3_fill N 2 q3.2).bind fun q5 =>
      (x_X8_yesIn q5.1 p0).bind fun q6 =>
      some (q6, q5.2)
    else
      some ((-3 : Int32), q3.2)
  else
    some ((-1 : Int32), h)
set_option maxRecDepth 20000 in
set_option maxHeartbeats 4000000 in
theorem t_X8_filled {g : mG} {l : Launch} (hg : mOK g) (N : Nat) (p0 : Int32) (h : mH) : mf g l 3 mX8_filled (fun r : Int32 × mH => (some (Value.int r.1), r.2)) [.ref (mad g 0), .int p0] h (x_X8_filled N p0 h) := by
  refine mf_of (by decide) (Nat.le_of_ble_eq_true rfl) ?_
  show mw g l 3 mX8_filled (fun r : Int32 × mH => (some (Value.int r.1), r.2)) 0 [(0, .ref (mad g 0)), (1, .int p0)] [] h _
  unfold x_X8_filled
  refine mw_aload_n (n := 1) (q := 0) dX8_filled_0 rfl rfl rfl ?_
  refine mw_getr (n := 4) (a := 0) (k := 0) cl8 (mkl hg (by decide) (by rfl)) (by decide) rfl rfl fl_X8_10 dX8_filled_1 rfl ?_
  refine mw_getr (n := 7) (a := 1) (k := 0) cl2 (mkl hg (by decide) (by rfl)) (by decide) rfl rfl fl_X8_80 dX8_filled_4 rfl ?_
  refine mw_iload_n (n := 8) (q := 1) dX8_filled_7 rfl rfl rfl ?_
  refine mw_callV (n := 11) (a := 2) (As := [.int p0]) cl6 (mkl hg (by decide) (by rfl)) (t_X6_hasCell hg 2 p0 (mkl hg (by decide) (by rfl)) h) (by decide) ok_X6_hasCell rfl rfl lk_X8_112 im_X6_hasCell se_X6_hasCell dX8_filled_8 rfl rfl (Nat.le_of_ble_eq_true rfl) (fun q1 _ => ?_)
  show mw g l _ _ _ 11 _ [.int q1] h _
  refine mw_if_ne (n := 14) (t := 16) dX8_filled_11 rfl (by decide) Iff.rfl (fun c2 => ?_) (fun c2 => ?_)
  · refine mw_aload_n (n := 17) (q := 0) dX8_filled_16 rfl rfl rfl ?_
    refine mw_getr (n := 20) (a := 0) (k := 4) cl8 (mkl hg (by decide) (by rfl)) (by decide) rfl rfl fl_X8_36 dX8_filled_17 rfl ?_
    refine mw_aload_n (n := 21) (q := 0) dX8_filled_20 rfl rfl rfl ?_
    refine mw_getr (n := 24) (a := 0) (k := 0) cl8 (mkl hg (by decide) (by rfl)) (by decide) rfl rfl fl_X8_10 dX8_filled_21 rfl ?_
    refine mw_getr (n := 27) (a := 1) (k := 0) cl2 (mkl hg (by decide) (by rfl)) (by decide) rfl rfl fl_X8_80 dX8_filled_24 rfl ?_
    refine mw_callV (n := 30) (a := 64) (As := [.ref (mad g 2)]) cl3 (mkl hg (by decide) (by rfl)) (t_X3_failsAt hg N 2 (mkl hg (by decide) (by rfl)) h) (by decide) ok_X3_failsAt rfl rfl lk_X8_119 im_X3_failsAt se_X3_failsAt dX8_filled_27 rfl rfl (Nat.le_of_ble_eq_true rfl) (fun q3 _ => ?_)
    show mw g l _ _ _ 30 _ [.int q3.1] q3.2 _
    refine mw_bipush (n := 32) (v := -9) dX8_filled_30 rfl (by decide) ?_
    refine mw_icmp_eq (n := 35) (t := 38) dX8_filled_32 rfl (by decide) Iff.rfl (fun c4 => ?_) (fun c4 => ?_)
    · refine mw_aload_n (n := 39) (q := 0) dX8_filled_38 rfl rfl rfl ?_
      refine mw_getr (n := 42) (a := 0) (k := 4) cl8 (mkl hg (by decide) (by rfl)) (by decide) rfl rfl fl_X8_36 dX8_filled_39 rfl ?_
      refine mw_aload_n (n := 43) (q := 0) dX8_filled_42 rfl rfl rfl ?_
      refine mw_getr (n := 46) (a := 0) (k := 0) cl8 (mkl hg (by decide) (by rfl)) (by decide) rfl rfl fl_X8_10 dX8_filled_43 rfl ?_
      refine mw_getr (n := 49) (a := 1) (k := 0) cl2 (mkl hg (by decide) (by rfl)) (by decide) rfl rfl fl_X8_80 dX8_filled_46 rfl ?_
      refine mw_callV (n := 52) (a := 64) (As := [.ref (mad g 2)]) cl3 (mkl hg (by decide) (by rfl)) (t_X3_fill hg N 2 (mkl hg (by decide) (by rfl)) q3.2) (by decide) ok_X3_fill rfl rfl lk_X8_123 im_X3_fill se_X3_fill dX8_filled_49 rfl rfl (Nat.le_of_ble_eq_true rfl) (fun q5 _ => ?_)
      show mw g l _ _ _ 52 _ [.int q5.1] q5.2 _
      refine mw_iload_n (n := 53) (q := 1) dX8_filled_52 rfl rfl rfl ?_
      refine mw_callS (n := 56) (As := [.int q5.1, .int p0]) (t_X8_yesIn hg q5.1 p0 q5.2) (by decide) ok_X8_yesIn rfl lk_X8_126 sm_X8_yesIn dX8_filled_53 rfl rfl (Nat.le_of_ble_eq_true rfl) (fun q6 _ => ?_)
      show mw g l _ _ _ 56 _ [.int q6] q5.2 _
      exact mw_iret dX8_filled_56 rfl rfl
    · refine mw_bipush (n := 37) (v := -3) dX8_filled_35 rfl (by decide) ?_
      exact mw_iret dX8_filled_37 rfl rfl
  · refine mw_iconst (n := 15) (v := -1) dX8_filled_14 rfl (by decide) ?_
    exact mw_iret dX8_filled_15 rfl rfl
noncomputable def x_X8_mended_192 (N : Nat) (self67 : Int32 → Int32 → Int32 → mH → Option (Int32 × mH)) (self76 : Int32 → Int32 → Int32 → mH → Option (Int32 × mH)) (self112 : Int32 → Int32 → Int32 → mH → Option (Int32 × mH)) (v1 : Int32) (v2 : Int32) (v3 : Int32) (v4 : Int32) (v5 : Int32) (v6 : Int32) (v7 : Int32) (h : mH) : Option (Int32 × mH) :=
  self112 v2 v3 (v7 + (1 : Int32)) h
set_option maxRecDepth 20000 in
set_option maxHeartbeats 4000000 in
theorem b_X8_mended_192 {g : mG} {l : Launch} (hg : mOK g) (N : Nat) (v1 : Int32) (v2 : Int32) (v3 : Int32) (v4 : Int32) (v5 : Int32) (v6 : Int32) (v7 : Int32) (self67 : Int32 → Int32 → Int32 → mH → Option (Int32 × mH)) (hself67 : ∀ (v2 : Int32) (v3 : Int32) (v4 : Int32) (h : mH), mw g l 3 mX8_mended (fun r : Int32 × mH => (some (Value.int r.1), r.2)) 67 [(0, .ref (mad g 0)), (1, .int v1), (2, .int v2), (3, .int v3), (4, .int v4)] [] h (self67 v2 v3 v4 h)) (self76 : Int32 → Int32 → Int32 → mH → Option (Int32 × mH)) (hself76 : ∀ (v2 : Int32) (v3 : Int32) (v5 : Int32) (h : mH), mw g l 3 mX8_mended (fun r : Int32 × mH => (some (Value.int r.1), r.2)) 76 [(0, .ref (mad g 0)), (1, .int v1), (2, .int v2), (3, .int v3), (4, .int v4), (5, .int v5)] [] h (self76 v2 v3 v5 h)) (self112 : Int32 → Int32 → Int32 → mH → Option (Int32 × mH)) (hself112 : ∀ (v2 : Int32) (v3 : Int32) (v7 : Int32) (h : mH), mw g l 3 mX8_mended (fun r : Int32 × mH => (some (Value.int r.1), r.2)) 112 [(0, .ref (mad g 0)), (1, .int v1), (2, .int v2), (3, .int v3), (4, .int v4), (5, .int v5), (6, .int v6), (7, .int v7)] [] h (self112 v2 v3 v7 h)) (h : mH) : mw g l 3 mX8_mended (fun r : Int32 × mH => (some (Value.int r.1), r.2)) 192 [(0, .ref (mad g 0)), (1, .int v1), (2, .int v2), (3, .int v3), (4, .int v4), (5, .int v5), (6, .int v6), (7, .int v7)] [] h (x_X8_mended_192 N self67 self76 self112 v1 v2 v3 v4 v5 v6 v7 h) := by
  unfold x_X8_mended_192
  refine mw_iinc (n := 195) (q := 7) (v := (v7 + (1 : Int32))) dX8_mended_192 rfl rfl rfl (by decide) rfl ?_
  refine mw_goto (n := 112) dX8_mended_195 (by decide) ?_
  refine mw_sub [1, 2, 3, 4, 5, 6, 7, 0] rfl ?_
  exact hself112 v2 v3 (v7 + (1 : Int32)) h
noncomputable def x_X8_mended_112 (N : Nat) (self67 : Int32 → Int32 → Int32 → mH → Option (Int32 × mH)) (self76 : Int32 → Int32 → Int32 → mH → Option (Int32 × mH)) (v1 : Int32) (v4 : Int32) (v5 : Int32) (v6 : Int32) (f : Nat) : Int32 → Int32 → Int32 → mH → Option (Int32 × mH) :=
  Nat.rec (motive := fun _ => Int32 → Int32 → Int32 → mH → Option (Int32 × mH)) (fun _ _ _ _ => none) (fun _ self112 => fun v2 v3 v7 h => 
    (x_X6_mostTotal 9 v4 h).bind fun q1 =>
    if q1 < v7 then
      (x_X6_putTotal 9 v4 v5 v6 h).bind fun q3 =>
      self76 v2 v3 (v5 + (1 : Int32)) q3
    else
      (x_X6_putTotal 9 v4 v5 v7 h).bind fun q4 =>
      (x_X3_failsAt N 9 q4).bind fun q5 =>
      if ¬ q5.1 = (-9 : Int32) then
        x_X8_mended_192 N self67 self76 self112 v1 v2 v3 v4 v5 v6 v7 q5.2
      else
        mlet (if ¬ v3 = (-9 : Int32) then v3 else ((((100 : Int32) * v4) + ((10 : Int32) * v5)) + v7)) fun u8 =>
        x_X8_mended_192 N self67 self76 self112 v1 (v2 + (1 : Int32)) u8 v4 v5 v6 v7 q5.2) f
theorem x_X8_mended_112_0 (N : Nat) (self67 : Int32 → Int32 → Int32 → mH → Option (Int32 × mH)) (self76 : Int32 → Int32 → Int32 → mH → Option (Int32 × mH)) (v1 : Int32) (v4 : Int32) (v5 : Int32) (v6 : Int32) (v2 : Int32) (v3 : Int32) (v7 : Int32) (h : mH) : x_X8_mended_112 N self67 self76 v1 v4 v5 v6 0 v2 v3 v7 h = none := rfl
theorem x_X8_mended_112_s (N : Nat) (self67 : Int32 → Int32 → Int32 → mH → Option (Int32 × mH)) (self76 : Int32 → Int32 → Int32 → mH → Option (Int32 × mH)) (v1 : Int32) (v4 : Int32) (v5 : Int32) (v6 : Int32) (f : Nat) (v2 : Int32) (v3 : Int32) (v7 : Int32) (h : mH) : x_X8_mended_112 N self67 self76 v1 v4 v5 v6 (f + 1) v2 v3 v7 h = (
    (x_X6_mostTotal 9 v4 h).bind fun q1 =>
    if q1 < v7 then
      (x_X6_putTotal 9 v4 v5 v6 h).bind fun q3 =>
      self76 v2 v3 (v5 + (1 : Int32)) q3
    else
      (x_X6_putTotal 9 v4 v5 v7 h).bind fun q4 =>
      (x_X3_failsAt N 9 q4).bind fun q5 =>
      if ¬ q5.1 = (-9 : Int32) then
        x_X8_mended_192 N self67 self76 (x_X8_mended_112 N self67 self76 v1 v4 v5 v6 f) v1 v2 v3 v4 v5 v6 v7 q5.2
      else
        mlet (if ¬ v3 = (-9 : Int32) then v3 else ((((100 : Int32) * v4) + ((10 : Int32) * v5)) + v7)) fun u8 =>
        x_X8_mended_192 N self67 self76 (x_X8_mended_112 N self67 self76 v1 v4 v5 v6 f) v1 (v2 + (1 : Int32)) u8 v4 v5 v6 v7 q5.2) := rfl
set_option maxRecDepth 20000 in
set_option maxHeartbeats 4000000 in
theorem b_X8_mended_112 {g : mG} {l : Launch} (hg : mOK g) (N : Nat) (v1 : Int32) (v4 : Int32) (v5 : Int32) (v6 : Int32) (self67 : Int32 → Int32 → Int32 → mH → Option (Int32 × mH)) (hself67 : ∀ (v2 : Int32) (v3 : Int32) (v4 : Int32) (h : mH), mw g l 3 mX8_mended (fun r : Int32 × mH => (some (Value.int r.1), r.2)) 67 [(0, .ref (mad g 0)), (1, .int v1), (2, .int v2), (3, .int v3), (4, .int v4)] [] h (self67 v2 v3 v4 h)) (self76 : Int32 → Int32 → Int32 → mH → Option (Int32 × mH)) (hself76 : ∀ (v2 : Int32) (v3 : Int32) (v5 : Int32) (h : mH), mw g l 3 mX8_mended (fun r : Int32 × mH => (some (Value.int r.1), r.2)) 76 [(0, .ref (mad g 0)), (1, .int v1), (2, .int v2), (3, .int v3), (4, .int v4), (5, .int v5)] [] h (self76 v2 v3 v5 h)) (f : Nat) : ∀ (v2 : Int32) (v3 : Int32) (v7 : Int32) (h : mH), mw g l 3 mX8_mended (fun r : Int32 × mH => (some (Value.int r.1), r.2)) 112 [(0, .ref (mad g 0)), (1, .int v1), (2, .int v2), (3, .int v3), (4, .int v4), (5, .int v5), (6, .int v6), (7, .int v7)] [] h (x_X8_mended_112 N self67 self76 v1 v4 v5 v6 f v2 v3 v7 h) := by
  induction f with
  | zero => intros; exact mw_none
  | succ f hself112 =>
    intro v2 v3 v7 h
    refine mw_eq (x_X8_mended_112_s N self67 self76 v1 v4 v5 v6 f v2 v3 v7 h) ?_
    generalize x_X8_mended_112 N self67 self76 v1 v4 v5 v6 f = self112 at hself112 ⊢
    refine mw_iload (n := 114) (q := 7) dX8_mended_112 rfl rfl ?_
    refine mw_aload_n (n := 115) (q := 0) dX8_mended_114 rfl rfl rfl ?_
    refine mw_getr (n := 118) (a := 0) (k := 1) cl8 (mkl hg (by decide) (by rfl)) (by decide) rfl rfl fl_X8_16 dX8_mended_115 rfl ?_
    refine mw_getr (n := 121) (a := 8) (k := 0) cl2 (mkl hg (by decide) (by rfl)) (by decide) rfl rfl fl_X8_80 dX8_mended_118 rfl ?_
    refine mw_iload (n := 123) (q := 4) dX8_mended_121 rfl rfl ?_
    refine mw_callV (n := 126) (a := 9) (As := [.int v4]) cl6 (mkl hg (by decide) (by rfl)) (t_X6_mostTotal hg 9 v4 (mkl hg (by decide) (by rfl)) h) (by decide) ok_X6_mostTotal rfl rfl lk_X8_132 im_X6_mostTotal se_X6_mostTotal dX8_mended_123 rfl rfl (Nat.le_of_ble_eq_true rfl) (fun q1 _ => ?_)
    show mw g l _ _ _ 126 _ [.int q1, .int v7] h _
    refine mw_icmp_gt (n := 129) (t := 198) dX8_mended_126 rfl (by decide) Iff.rfl (fun c2 => ?_) (fun c2 => ?_)
    · refine mw_aload_n (n := 199) (q := 0) dX8_mended_198 rfl rfl rfl ?_
      refine mw_getr (n := 202) (a := 0) (k := 1) cl8 (mkl hg (by decide) (by rfl)) (by decide) rfl rfl fl_X8_16 dX8_mended_199 rfl ?_
      refine mw_getr (n := 205) (a := 8) (k := 0) cl2 (mkl hg (by decide) (by rfl)) (by decide) rfl rfl fl_X8_80 dX8_mended_202 rfl ?_
      refine mw_iload (n := 207) (q := 4) dX8_mended_205 rfl rfl ?_
      refine mw_iload (n := 209) (q := 5) dX8_mended_207 rfl rfl ?_
      refine mw_iload (n := 211) (q := 6) dX8_mended_209 rfl rfl ?_
      refine mw_callV (n := 214) (a := 9) (As := [.int v4, .int v5, .int v6]) cl6 (mkl hg (by decide) (by rfl)) (t_X6_putTotal hg 9 v4 v5 v6 (mkl hg (by decide) (by rfl)) h) (by decide) ok_X6_putTotal rfl rfl lk_X8_135 im_X6_putTotal se_X6_putTotal dX8_mended_211 rfl rfl (Nat.le_of_ble_eq_true rfl) (fun q3 _ => ?_)
      show mw g l _ _ _ 214 _ [] q3 _
      refine mw_iinc (n := 217) (q := 5) (v := (v5 + (1 : Int32))) dX8_mended_214 rfl rfl rfl (by decide) rfl ?_
      refine mw_goto (n := 76) dX8_mended_217 (by decide) ?_
      refine mw_sub [1, 2, 3, 4, 5, 0] rfl ?_
      exact hself76 v2 v3 (v5 + (1 : Int32)) q3
    · refine mw_aload_n (n := 130) (q := 0) dX8_mended_129 rfl rfl rfl ?_
      refine mw_getr (n := 133) (a := 0) (k := 1) cl8 (mkl hg (by decide) (by rfl)) (by decide) rfl rfl fl_X8_16 dX8_mended_130 rfl ?_
      refine mw_getr (n := 136) (a := 8) (k := 0) cl2 (mkl hg (by decide) (by rfl)) (by decide) rfl rfl fl_X8_80 dX8_mended_133 rfl ?_
      refine mw_iload (n := 138) (q := 4) dX8_mended_136 rfl rfl ?_
      refine mw_iload (n := 140) (q := 5) dX8_mended_138 rfl rfl ?_
      refine mw_iload (n := 142) (q := 7) dX8_mended_140 rfl rfl ?_
      refine mw_callV (n := 145) (a := 9) (As := [.int v4, .int v5, .int v7]) cl6 (mkl hg (by decide) (by rfl)) (t_X6_putTotal hg 9 v4 v5 v7 (mkl hg (by decide) (by rfl)) h) (by decide) ok_X6_putTotal rfl rfl lk_X8_135 im_X6_putTotal se_X6_putTotal dX8_mended_142 rfl rfl (Nat.le_of_ble_eq_true rfl) (fun q4 _ => ?_)
      show mw g l _ _ _ 145 _ [] q4 _
      refine mw_aload_n (n := 146) (q := 0) dX8_mended_145 rfl rfl rfl ?_
      refine mw_getr (n := 149) (a := 0) (k := 4) cl8 (mkl hg (by decide) (by rfl)) (by decide) rfl rfl fl_X8_36 dX8_mended_146 rfl ?_
      refine mw_aload_n (n := 150) (q := 0) dX8_mended_149 rfl rfl rfl ?_
      refine mw_getr (n := 153) (a := 0) (k := 1) cl8 (mkl hg (by decide) (by rfl)) (by decide) rfl rfl fl_X8_16 dX8_mended_150 rfl ?_
      refine mw_getr (n := 156) (a := 8) (k := 0) cl2 (mkl hg (by decide) (by rfl)) (by decide) rfl rfl fl_X8_80 dX8_mended_153 rfl ?_
      refine mw_callV (n := 159) (a := 64) (As := [.ref (mad g 9)]) cl3 (mkl hg (by decide) (by rfl)) (t_X3_failsAt hg N 9 (mkl hg (by decide) (by rfl)) q4) (by decide) ok_X3_failsAt rfl rfl lk_X8_119 im_X3_failsAt se_X3_failsAt dX8_mended_156 rfl rfl (Nat.le_of_ble_eq_true rfl) (fun q5 _ => ?_)
      show mw g l _ _ _ 159 _ [.int q5.1] q5.2 _
      refine mw_bipush (n := 161) (v := -9) dX8_mended_159 rfl (by decide) ?_
      refine mw_icmp_ne (n := 164) (t := 192) dX8_mended_161 rfl (by decide) Iff.rfl (fun c6 => ?_) (fun c6 => ?_)
      · exact b_X8_mended_192 hg N v1 v2 v3 v4 v5 v6 v7 self67 hself67 self76 hself76 self112 hself112 q5.2
      · refine mw_iinc (n := 167) (q := 2) (v := (v2 + (1 : Int32))) dX8_mended_164 rfl rfl rfl (by decide) rfl ?_
        refine mw_iload_n (n := 168) (q := 3) dX8_mended_167 rfl rfl rfl ?_
        refine mw_bipush (n := 170) (v := -9) dX8_mended_168 rfl (by decide) ?_
        refine mw_cutJ (pc' := 191) (lv' := [(2, .int (v2 + (1 : Int32))), (0, .ref (mad g 0)), (1, .int v1), (3, .int v3), (4, .int v4), (5, .int v5), (6, .int v6), (7, .int v7)]) (st' := [.int (if ¬ v3 = (-9 : Int32) then v3 else ((((100 : Int32) * v4) + ((10 : Int32) * v5)) + v7))]) (fun J => ?_) ?_
        · refine mw_icmp_ne_m (n := 173) (t := 190) dX8_mended_170 rfl (by decide) (fun c7 => ?_) (fun c7 => ?_)
          · refine mw_iload_n (n := 191) (q := 3) dX8_mended_190 rfl rfl rfl ?_
            exact mw_topeq (if_pos c7).symm J
          · refine mw_bipush (n := 175) (v := 100) dX8_mended_173 rfl (by decide) ?_
            refine mw_iload (n := 177) (q := 4) dX8_mended_175 rfl rfl ?_
            refine mw_imul (n := 178) dX8_mended_177 rfl ?_
            refine mw_bipush (n := 180) (v := 10) dX8_mended_178 rfl (by decide) ?_
            refine mw_iload (n := 182) (q := 5) dX8_mended_180 rfl rfl ?_
            refine mw_imul (n := 183) dX8_mended_182 rfl ?_
            refine mw_iadd (n := 184) dX8_mended_183 rfl ?_
            refine mw_iload (n := 186) (q := 7) dX8_mended_184 rfl rfl ?_
            refine mw_iadd (n := 187) dX8_mended_186 rfl ?_
            refine mw_goto (n := 191) dX8_mended_187 (by decide) ?_
            exact mw_topeq (if_neg c7).symm J
        refine mw_letI (fun u8 => ?_)
        refine mw_istore_n (n := 192) dX8_mended_191 rfl rfl (by decide) rfl ?_
        refine mw_sub [2, 3, 1, 0, 4, 5, 6, 7] rfl ?_
        exact b_X8_mended_192 hg N v1 (v2 + (1 : Int32)) u8 v4 v5 v6 v7 self67 hself67 self76 hself76 self112 hself112 q5.2
noncomputable def x_X8_mended_76 (N : Nat) (self67 : Int32 → Int32 → Int32 → mH → Option (Int32 × mH)) (v1 : Int32) (v4 : Int32) (f : Nat) : Int32 → Int32 → Int32 → mH → Option (Int32 × mH) :=
  Nat.rec (motive := fun _ => Int32 → Int32 → Int32 → mH → Option (Int32 × mH)) (fun _ _ _ _ => none) (fun _ self76 => fun v2 v3 v5 h => 
    (x_X6_totalCount 9 v4 h).bind fun q1 =>
    if q1 ≤ v5 then
      self67 v2 v3 (v4 + (1 : Int32)) h
    else
      (x_X6_totalOf 9 v4 v5 h).bind fun q3 =>
      x_X8_mended_112 N self67 self76 v1 v4 v5 q3 N v2 v3 (0 : Int32) h) f
theorem x_X8_mended_76_0 (N : Nat) (self67 : Int32 → Int32 → Int32 → mH → Option (Int32 × mH)) (v1 : Int32) (v4 : Int32) (v2 : Int32) (v3 : Int32) (v5 : Int32) (h : mH) : x_X8_mended_76 N self67 v1 v4 0 v2 v3 v5 h = none := rfl
theorem x_X8_mended_76_s (N : Nat) (self67 : Int32 → Int32 → Int32 → mH → Option (Int32 × mH)) (v1 : Int32) (v4 : Int32) (f : Nat) (v2 : Int32) (v3 : Int32) (v5 : Int32) (h : mH) : x_X8_mended_76 N self67 v1 v4 (f + 1) v2 v3 v5 h = (
    (x_X6_totalCount 9 v4 h).bind fun q1 =>
    if q1 ≤ v5 then
      self67 v2 v3 (v4 + (1 : Int32)) h
    else
      (x_X6_totalOf 9 v4 v5 h).bind fun q3 =>
      x_X8_mended_112 N self67 (x_X8_mended_76 N self67 v1 v4 f) v1 v4 v5 q3 N v2 v3 (0 : Int32) h) := rfl
set_option maxRecDepth 20000 in
set_option maxHeartbeats 4000000 in
theorem b_X8_mended_76 {g : mG} {l : Launch} (hg : mOK g) (N : Nat) (v1 : Int32) (v4 : Int32) (self67 : Int32 → Int32 → Int32 → mH → Option (Int32 × mH)) (hself67 : ∀ (v2 : Int32) (v3 : Int32) (v4 : Int32) (h : mH), mw g l 3 mX8_mended (fun r : Int32 × mH => (some (Value.int r.1), r.2)) 67 [(0, .ref (mad g 0)), (1, .int v1), (2, .int v2), (3, .int v3), (4, .int v4)] [] h (self67 v2 v3 v4 h)) (f : Nat) : ∀ (v2 : Int32) (v3 : Int32) (v5 : Int32) (h : mH), mw g l 3 mX8_mended (fun r : Int32 × mH => (some (Value.int r.1), r.2)) 76 [(0, .ref (mad g 0)), (1, .int v1), (2, .int v2), (3, .int v3), (4, .int v4), (5, .int v5)] [] h (x_X8_mended_76 N self67 v1 v4 f v2 v3 v5 h) := by
  induction f with
  | zero => intros; exact mw_none
  | succ f hself76 =>
    intro v2 v3 v5 h
    refine mw_eq (x_X8_mended_76_s N self67 v1 v4 f v2 v3 v5 h) ?_
    generalize x_X8_mended_76 N self67 v1 v4 f = self76 at hself76 ⊢
    refine mw_iload (n := 78) (q := 5) dX8_mended_76 rfl rfl ?_
    refine mw_aload_n (n := 79) (q := 0) dX8_mended_78 rfl rfl rfl ?_
    refine mw_getr (n := 82) (a := 0) (k := 1) cl8 (mkl hg (by decide) (by rfl)) (by decide) rfl rfl fl_X8_16 dX8_mended_79 rfl ?_
    refine mw_getr (n := 85) (a := 8) (k := 0) cl2 (mkl hg (by decide) (by rfl)) (by decide) rfl rfl fl_X8_80 dX8_mended_82 rfl ?_
    refine mw_iload (n := 87) (q := 4) dX8_mended_85 rfl rfl ?_
    refine mw_callV (n := 90) (a := 9) (As := [.int v4]) cl6 (mkl hg (by decide) (by rfl)) (t_X6_totalCount hg 9 v4 (mkl hg (by decide) (by rfl)) h) (by decide) ok_X6_totalCount rfl rfl lk_X8_129 im_X6_totalCount se_X6_totalCount dX8_mended_87 rfl rfl (Nat.le_of_ble_eq_true rfl) (fun q1 _ => ?_)
    show mw g l _ _ _ 90 _ [.int q1, .int v5] h _
    refine mw_icmp_ge (n := 93) (t := 220) dX8_mended_90 rfl (by decide) Iff.rfl (fun c2 => ?_) (fun c2 => ?_)
    · refine mw_iinc (n := 223) (q := 4) (v := (v4 + (1 : Int32))) dX8_mended_220 rfl rfl rfl (by decide) rfl ?_
      refine mw_goto (n := 67) dX8_mended_223 (by decide) ?_
      refine mw_sub [1, 2, 3, 4, 0] rfl ?_
      exact hself67 v2 v3 (v4 + (1 : Int32)) h
    · refine mw_aload_n (n := 94) (q := 0) dX8_mended_93 rfl rfl rfl ?_
      refine mw_getr (n := 97) (a := 0) (k := 1) cl8 (mkl hg (by decide) (by rfl)) (by decide) rfl rfl fl_X8_16 dX8_mended_94 rfl ?_
      refine mw_getr (n := 100) (a := 8) (k := 0) cl2 (mkl hg (by decide) (by rfl)) (by decide) rfl rfl fl_X8_80 dX8_mended_97 rfl ?_
      refine mw_iload (n := 102) (q := 4) dX8_mended_100 rfl rfl ?_
      refine mw_iload (n := 104) (q := 5) dX8_mended_102 rfl rfl ?_
      refine mw_callV (n := 107) (a := 9) (As := [.int v4, .int v5]) cl6 (mkl hg (by decide) (by rfl)) (t_X6_totalOf hg 9 v4 v5 (mkl hg (by decide) (by rfl)) h) (by decide) ok_X6_totalOf rfl rfl lk_X8_108 im_X6_totalOf se_X6_totalOf dX8_mended_104 rfl rfl (Nat.le_of_ble_eq_true rfl) (fun q3 _ => ?_)
      show mw g l _ _ _ 107 _ [.int q3] h _
      refine mw_istore (n := 109) dX8_mended_107 rfl (by decide) rfl ?_
      refine mw_iconst (n := 110) (v := 0) dX8_mended_109 rfl (by decide) ?_
      refine mw_istore (n := 112) dX8_mended_110 rfl (by decide) rfl ?_
      refine mw_sub [2, 3, 4, 5, 6, 7, 1, 0] rfl ?_
      exact b_X8_mended_112 hg N v1 v4 v5 q3 self67 hself67 self76 hself76 N v2 v3 (0 : Int32) h
noncomputable def x_X8_mended_67 (N : Nat) (v1 : Int32) (f : Nat) : Int32 → Int32 → Int32 → mH → Option (Int32 × mH) :=
  Nat.rec (motive := fun _ => Int32 → Int32 → Int32 → mH → Option (Int32 × mH)) (fun _ _ _ _ => none) (fun _ self67 => fun v2 v3 v4 h => 
    if (1 : Int32) < v4 then
      some ((if ¬ v1 = 0 then v3 else v2), h)
    else
      x_X8_mended_76 N self67 v1 v4 N v2 v3 (0 : Int32) h) f
theorem x_X8_mended_67_0 (N : Nat) (v1 : Int32) (v2 : Int32) (v3 : Int32) (v4 : Int32) (h : mH) : x_X8_mended_67 N v1 0 v2 v3 v4 h = none := rfl
theorem x_X8_mended_67_s (N : Nat) (v1 : Int32) (f : Nat) (v2 : Int32) (v3 : Int32) (v4 : Int32) (h : mH) : x_X8_mended_67 N v1 (f + 1) v2 v3 v4 h = (
    if (1 : Int32) < v4 then
      some ((if ¬ v1 = 0 then v3 else v2), h)
    else
      x_X8_mended_76 N (x_X8_mended_67 N v1 f) v1 v4 N v2 v3 (0 : Int32) h) := rfl
set_option maxRecDepth 20000 in
set_option maxHeartbeats 4000000 in
theorem b_X8_mended_67 {g : mG} {l : Launch} (hg : mOK g) (N : Nat) (v1 : Int32) (f : Nat) : ∀ (v2 : Int32) (v3 : Int32) (v4 : Int32) (h : mH), mw g l 3 mX8_mended (fun r : Int32 × mH => (some (Value.int r.1), r.2)) 67 [(0, .ref (mad g 0)), (1, .int v1), (2, .int v2), (3, .int v3), (4, .int v4)] [] h (x_X8_mended_67 N v1 f v2 v3 v4 h) := by
  induction f with
  | zero => intros; exact mw_none
  | succ f hself67 =>
    intro v2 v3 v4 h
    refine mw_eq (x_X8_mended_67_s N v1 f v2 v3 v4 h) ?_
    generalize x_X8_mended_67 N v1 f = self67 at hself67 ⊢
    refine mw_iload (n := 69) (q := 4) dX8_mended_67 rfl rfl ?_
    refine mw_iconst (n := 70) (v := 1) dX8_mended_69 rfl (by decide) ?_
    refine mw_icmp_gt (n := 73) (t := 226) dX8_mended_70 rfl (by decide) Iff.rfl (fun c1 => ?_) (fun c1 => ?_)
    · refine mw_iload_n (n := 227) (q := 1) dX8_mended_226 rfl rfl rfl ?_
      refine mw_cutJ (pc' := 235) (lv' := [(0, .ref (mad g 0)), (1, .int v1), (2, .int v2), (3, .int v3), (4, .int v4)]) (st' := [.int (if ¬ v1 = 0 then v3 else v2)]) (fun J => ?_) ?_
      · refine mw_if_ne_m (n := 230) (t := 234) dX8_mended_227 rfl (by decide) (fun c2 => ?_) (fun c2 => ?_)
        · refine mw_iload_n (n := 235) (q := 3) dX8_mended_234 rfl rfl rfl ?_
          exact mw_topeq (if_pos c2).symm J
        · refine mw_iload_n (n := 231) (q := 2) dX8_mended_230 rfl rfl rfl ?_
          refine mw_goto (n := 235) dX8_mended_231 (by decide) ?_
          exact mw_topeq (if_neg c2).symm J
      exact mw_iret dX8_mended_235 rfl rfl
    · refine mw_iconst (n := 74) (v := 0) dX8_mended_73 rfl (by decide) ?_
      refine mw_istore (n := 76) dX8_mended_74 rfl (by decide) rfl ?_
      refine mw_sub [1, 2, 3, 4, 5, 0] rfl ?_
      exact b_X8_mended_76 hg N v1 v4 self67 hself67 N v2 v3 (0 : Int32) h
noncomputable def x_X8_mended_12 (N : Nat) (v1 : Int32) (h : mH) : Option (Int32 × mH) :=
  (x_X3_failsAt N 2 h).bind fun q1 =>
  if ¬ q1.1 = (-9 : Int32) then
    (x_X6_become 9 2 q1.2).bind fun q3 =>
    x_X8_mended_67 N v1 N (0 : Int32) (-9 : Int32) (0 : Int32) q3
  else
    some ((if ¬ v1 = 0 then (-9 : Int32) else (0 : Int32)), q1.2)
set_option maxRecDepth 20000 in
set_option maxHeartbeats 4000000 in
theorem b_X8_mended_12 {g : mG} {l : Launch} (hg : mOK g) (N : Nat) (v1 : Int32) (h : mH) : mw g l 3 mX8_mended (fun r : Int32 × mH => (some (Value.int r.1), r.2)) 12 [(0, .ref (mad g 0)), (1, .int v1)] [] h (x_X8_mended_12 N v1 h) := by
  unfold x_X8_mended_12
  refine mw_aload_n (n := 13) (q := 0) dX8_mended_12 rfl rfl rfl ?_
  refine mw_getr (n := 16) (a := 0) (k := 4) cl8 (mkl hg (by decide) (by rfl)) (by decide) rfl rfl fl_X8_36 dX8_mended_13 rfl ?_
  refine mw_aload_n (n := 17) (q := 0) dX8_mended_16 rfl rfl rfl ?_
  refine mw_getr (n := 20) (a := 0) (k := 0) cl8 (mkl hg (by decide) (by rfl)) (by decide) rfl rfl fl_X8_10 dX8_mended_17 rfl ?_
  refine mw_getr (n := 23) (a := 1) (k := 0) cl2 (mkl hg (by decide) (by rfl)) (by decide) rfl rfl fl_X8_80 dX8_mended_20 rfl ?_
  refine mw_callV (n := 26) (a := 64) (As := [.ref (mad g 2)]) cl3 (mkl hg (by decide) (by rfl)) (t_X3_failsAt hg N 2 (mkl hg (by decide) (by rfl)) h) (by decide) ok_X3_failsAt rfl rfl lk_X8_119 im_X3_failsAt se_X3_failsAt dX8_mended_23 rfl rfl (Nat.le_of_ble_eq_true rfl) (fun q1 _ => ?_)
  show mw g l _ _ _ 26 _ [.int q1.1] q1.2 _
  refine mw_bipush (n := 28) (v := -9) dX8_mended_26 rfl (by decide) ?_
  refine mw_icmp_ne (n := 31) (t := 42) dX8_mended_28 rfl (by decide) Iff.rfl (fun c2 => ?_) (fun c2 => ?_)
  · refine mw_aload_n (n := 43) (q := 0) dX8_mended_42 rfl rfl rfl ?_
    refine mw_getr (n := 46) (a := 0) (k := 1) cl8 (mkl hg (by decide) (by rfl)) (by decide) rfl rfl fl_X8_16 dX8_mended_43 rfl ?_
    refine mw_getr (n := 49) (a := 8) (k := 0) cl2 (mkl hg (by decide) (by rfl)) (by decide) rfl rfl fl_X8_80 dX8_mended_46 rfl ?_
    refine mw_aload_n (n := 50) (q := 0) dX8_mended_49 rfl rfl rfl ?_
    refine mw_getr (n := 53) (a := 0) (k := 0) cl8 (mkl hg (by decide) (by rfl)) (by decide) rfl rfl fl_X8_10 dX8_mended_50 rfl ?_
    refine mw_getr (n := 56) (a := 1) (k := 0) cl2 (mkl hg (by decide) (by rfl)) (by decide) rfl rfl fl_X8_80 dX8_mended_53 rfl ?_
    refine mw_callV (n := 59) (a := 9) (As := [.ref (mad g 2)]) cl6 (mkl hg (by decide) (by rfl)) (t_X6_become hg 9 2 (mkl hg (by decide) (by rfl)) (mkl hg (by decide) (by rfl)) q1.2) (by decide) ok_X6_become rfl rfl lk_X8_87 im_X6_become se_X6_become dX8_mended_56 rfl rfl (Nat.le_of_ble_eq_true rfl) (fun q3 _ => ?_)
    show mw g l _ _ _ 59 _ [] q3 _
    refine mw_iconst (n := 60) (v := 0) dX8_mended_59 rfl (by decide) ?_
    refine mw_istore_n (n := 61) dX8_mended_60 rfl rfl (by decide) rfl ?_
    refine mw_bipush (n := 63) (v := -9) dX8_mended_61 rfl (by decide) ?_
    refine mw_istore_n (n := 64) dX8_mended_63 rfl rfl (by decide) rfl ?_
    refine mw_iconst (n := 65) (v := 0) dX8_mended_64 rfl (by decide) ?_
    refine mw_istore (n := 67) dX8_mended_65 rfl (by decide) rfl ?_
    refine mw_sub [3, 4, 2, 1, 0] rfl ?_
    exact b_X8_mended_67 hg N v1 N (0 : Int32) (-9 : Int32) (0 : Int32) q3
  · refine mw_iload_n (n := 32) (q := 1) dX8_mended_31 rfl rfl rfl ?_
    refine mw_cutJ (pc' := 41) (lv' := [(0, .ref (mad g 0)), (1, .int v1)]) (st' := [.int (if ¬ v1 = 0 then (-9 : Int32) else (0 : Int32))]) (fun J => ?_) ?_
    · refine mw_if_ne_m (n := 35) (t := 39) dX8_mended_32 rfl (by decide) (fun c4 => ?_) (fun c4 => ?_)
      · refine mw_bipush (n := 41) (v := -9) dX8_mended_39 rfl (by decide) ?_
        exact mw_topeq (if_pos c4).symm J
      · refine mw_iconst (n := 36) (v := 0) dX8_mended_35 rfl (by decide) ?_
        refine mw_goto (n := 41) dX8_mended_36 (by decide) ?_
        exact mw_topeq (if_neg c4).symm J
    exact mw_iret dX8_mended_41 rfl rfl
noncomputable def x_X8_mended (N : Nat) (p0 : Int32) (h : mH) : Option (Int32 × mH) :=
  if p0 = 0 then
    x_X8_mended_12 N p0 h
  else
    if p0 = (1 : Int32) then
      x_X8_mended_12 N p0 h
    else
      some ((-2 : Int32), h)
set_option maxRecDepth 20000 in
set_option maxHeartbeats 4000000 in
theorem t_X8_mended {g : mG} {l : Launch} (hg : mOK g) (N : Nat) (p0 : Int32) (h : mH) : mf g l 3 mX8_mended (fun r : Int32 × mH => (some (Value.int r.1), r.2)) [.ref (mad g 0), .int p0] h (x_X8_mended N p0 h) := by
  refine mf_of (by decide) (Nat.le_of_ble_eq_true rfl) ?_
  show mw g l 3 mX8_mended (fun r : Int32 × mH => (some (Value.int r.1), r.2)) 0 [(0, .ref (mad g 0)), (1, .int p0)] [] h _
  unfold x_X8_mended
  refine mw_iload_n (n := 1) (q := 1) dX8_mended_0 rfl rfl rfl ?_
  refine mw_if_eq (n := 4) (t := 12) dX8_mended_1 rfl (by decide) Iff.rfl (fun c1 => ?_) (fun c1 => ?_)
  · exact b_X8_mended_12 hg N p0 h
  · refine mw_iload_n (n := 5) (q := 1) dX8_mended_4 rfl rfl rfl ?_
    refine mw_iconst (n := 6) (v := 1) dX8_mended_5 rfl (by decide) ?_
    refine mw_icmp_eq (n := 9) (t := 12) dX8_mended_6 rfl (by decide) Iff.rfl (fun c2 => ?_) (fun c2 => ?_)
    · exact b_X8_mended_12 hg N p0 h
    · refine mw_bipush (n := 11) (v := -2) dX8_mended_9 rfl (by decide) ?_
      exact mw_iret dX8_mended_11 rfl rfl
noncomputable def x_X8_answers (h : mH) : Option (Int32) :=
  some (mgi h 5 3)
set_option maxRecDepth 20000 in
set_option maxHeartbeats 4000000 in
theorem t_X8_answers {g : mG} {l : Launch} (hg : mOK g) (h : mH) : mf g l 0 mX8_answers (fun r : Int32 => (some (Value.int r), h)) [.ref (mad g 0)] h (x_X8_answers h) := by
  refine mf_of (by decide) (Nat.le_of_ble_eq_true rfl) ?_
  show mw g l 0 mX8_answers (fun r : Int32 => (some (Value.int r), h)) 0 [(0, .ref (mad g 0))] [] h _
  unfold x_X8_answers
  refine mw_aload_n (n := 1) (q := 0) dX8_answers_0 rfl rfl rfl ?_
  refine mw_getr (n := 4) (a := 0) (k := 0) cl8 (mkl hg (by decide) (by rfl)) (by decide) rfl rfl fl_X8_10 dX8_answers_1 rfl ?_
  refine mw_getr (n := 7) (a := 1) (k := 1) cl2 (mkl hg (by decide) (by rfl)) (by decide) rfl rfl fl_X8_95 dX8_answers_4 rfl ?_
  refine mw_geti (n := 10) (a := 5) (k := 3) cl1 (mkl hg (by decide) (by rfl)) (by decide) rfl rfl fl_X8_99 dX8_answers_7 rfl ?_
  exact mw_iret dX8_answers_10 rfl rfl
noncomputable def x_X8_cell (N : Nat) (p0 : Int32) (p1 : Int32) (h : mH) : Option (Int32) :=
  (x_X6_hasCell 2 p0 h).bind fun q1 =>
  if ¬ q1 = 0 then
    if p1 = (0 : Int32) then
      (x_X2_planeAt 1 p0 h).bind fun q4 =>
      some q4
    else if p1 = (1 : Int32) then
      (x_X1_sureAt 5 p0 h).bind fun q6 =>
      some q6
    else if p1 = (2 : Int32) then
      (x_X1_yesAt N 5 p0 h).bind fun q8 =>
      some q8
    else some (-2 : Int32)
  else
    some (-1 : Int32)
set_option maxRecDepth 20000 in
set_option maxHeartbeats 4000000 in
theorem t_X8_cell {g : mG} {l : Launch} (hg : mOK g) (N : Nat) (p0 : Int32) (p1 : Int32) (h : mH) : mf g l 3 mX8_cell (fun r : Int32 => (some (Value.int r), h)) [.ref (mad g 0), .int p0, .int p1] h (x_X8_cell N p0 p1 h) := by
  refine mf_of (by decide) (Nat.le_of_ble_eq_true rfl) ?_
  show mw g l 3 mX8_cell (fun r : Int32 => (some (Value.int r), h)) 0 [(0, .ref (mad g 0)), (1, .int p0), (2, .int p1)] [] h _
  unfold x_X8_cell
  refine mw_aload_n (n := 1) (q := 0) dX8_cell_0 rfl rfl rfl ?_
  refine mw_getr (n := 4) (a := 0) (k := 0) cl8 (mkl hg (by decide) (by rfl)) (by decide) rfl rfl fl_X8_10 dX8_cell_1 rfl ?_
  refine mw_getr (n := 7) (a := 1) (k := 0) cl2 (mkl hg (by decide) (by rfl)) (by decide) rfl rfl fl_X8_80 dX8_cell_4 rfl ?_
  refine mw_iload_n (n := 8) (q := 1) dX8_cell_7 rfl rfl rfl ?_
  refine mw_callV (n := 11) (a := 2) (As := [.int p0]) cl6 (mkl hg (by decide) (by rfl)) (t_X6_hasCell hg 2 p0 (mkl hg (by decide) (by rfl)) h) (by decide) ok_X6_hasCell rfl rfl lk_X8_112 im_X6_hasCell se_X6_hasCell dX8_cell_8 rfl rfl (Nat.le_of_ble_eq_true rfl) (fun q1 _ => ?_)
  show mw g l _ _ _ 11 _ [.int q1] h _
  refine mw_if_ne (n := 14) (t := 16) dX8_cell_11 rfl (by decide) Iff.rfl (fun c2 => ?_) (fun c2 => ?_)
  · refine mw_iload_n (n := 17) (q := 2) dX8_cell_16 rfl rfl rfl ?_
    refine mw_tcase (v := 0) (t := 44) dX8_cell_17 (by decide) (by decide) rfl (by decide) (fun c3 => ?_) (fun c3 => ?_)
    · refine mw_aload_n (n := 45) (q := 0) dX8_cell_44 rfl rfl rfl ?_
      refine mw_getr (n := 48) (a := 0) (k := 0) cl8 (mkl hg (by decide) (by rfl)) (by decide) rfl rfl fl_X8_10 dX8_cell_45 rfl ?_
      refine mw_iload_n (n := 49) (q := 1) dX8_cell_48 rfl rfl rfl ?_
      refine mw_callV (n := 52) (a := 1) (As := [.int p0]) cl2 (mkl hg (by decide) (by rfl)) (t_X2_planeAt hg 1 p0 (mkl hg (by decide) (by rfl)) h) (by decide) ok_X2_planeAt rfl rfl lk_X8_139 im_X2_planeAt se_X2_planeAt dX8_cell_49 rfl rfl (Nat.le_of_ble_eq_true rfl) (fun q4 _ => ?_)
      show mw g l _ _ _ 52 _ [.int q4] h _
      exact mw_iret dX8_cell_52 rfl rfl
    refine mw_tcase (v := 1) (t := 53) dX8_cell_17 (by decide) (by decide) rfl (by decide) (fun c5 => ?_) (fun c5 => ?_)
    · refine mw_aload_n (n := 54) (q := 0) dX8_cell_53 rfl rfl rfl ?_
      refine mw_getr (n := 57) (a := 0) (k := 0) cl8 (mkl hg (by decide) (by rfl)) (by decide) rfl rfl fl_X8_10 dX8_cell_54 rfl ?_
      refine mw_getr (n := 60) (a := 1) (k := 1) cl2 (mkl hg (by decide) (by rfl)) (by decide) rfl rfl fl_X8_95 dX8_cell_57 rfl ?_
      refine mw_iload_n (n := 61) (q := 1) dX8_cell_60 rfl rfl rfl ?_
      refine mw_callV (n := 64) (a := 5) (As := [.int p0]) cl1 (mkl hg (by decide) (by rfl)) (t_X1_sureAt hg 5 p0 (mkl hg (by decide) (by rfl)) h) (by decide) ok_X1_sureAt rfl rfl lk_X8_142 im_X1_sureAt se_X1_sureAt dX8_cell_61 rfl rfl (Nat.le_of_ble_eq_true rfl) (fun q6 _ => ?_)
      show mw g l _ _ _ 64 _ [.int q6] h _
      exact mw_iret dX8_cell_64 rfl rfl
    refine mw_tcase (v := 2) (t := 65) dX8_cell_17 (by decide) (by decide) rfl (by decide) (fun c7 => ?_) (fun c7 => ?_)
    · refine mw_aload_n (n := 66) (q := 0) dX8_cell_65 rfl rfl rfl ?_
      refine mw_getr (n := 69) (a := 0) (k := 0) cl8 (mkl hg (by decide) (by rfl)) (by decide) rfl rfl fl_X8_10 dX8_cell_66 rfl ?_
      refine mw_getr (n := 72) (a := 1) (k := 1) cl2 (mkl hg (by decide) (by rfl)) (by decide) rfl rfl fl_X8_95 dX8_cell_69 rfl ?_
      refine mw_iload_n (n := 73) (q := 1) dX8_cell_72 rfl rfl rfl ?_
      refine mw_callV (n := 76) (a := 5) (As := [.int p0]) cl1 (mkl hg (by decide) (by rfl)) (t_X1_yesAt hg N 5 p0 (mkl hg (by decide) (by rfl)) h) (by decide) ok_X1_yesAt rfl rfl lk_X8_145 im_X1_yesAt se_X1_yesAt dX8_cell_73 rfl rfl (Nat.le_of_ble_eq_true rfl) (fun q8 _ => ?_)
      show mw g l _ _ _ 76 _ [.int q8] h _
      exact mw_iret dX8_cell_76 rfl rfl
    refine mw_tdef (t := 77) dX8_cell_17 (by have e0 : p1.toInt ≠ 0 := sw_ne c3 (by decide); have e1 : p1.toInt ≠ 1 := sw_ne c5 (by decide); have e2 : p1.toInt ≠ 2 := sw_ne c7 (by decide); omega) (by decide) ?_
    refine mw_bipush (n := 79) (v := -2) dX8_cell_77 rfl (by decide) ?_
    exact mw_iret dX8_cell_79 rfl rfl
  · refine mw_iconst (n := 15) (v := -1) dX8_cell_14 rfl (by decide) ?_
    exact mw_iret dX8_cell_15 rfl rfl
noncomputable def x_X8_odds (N : Nat) (p0 : Int32) (p1 : Int32) (h : mH) : Option (Int32) :=
  (x_X6_hasCell 2 p0 h).bind fun q1 =>
  if ¬ q1 = 0 then
    if ¬ (mgi h 5 3) = 0 then
      (x_X1_yesAt N 5 p0 h).bind fun q4 =>
      (x_X8_inLeastTerms N q4 (mgi h 5 3) p1).bind fun q5 =>
      some q5
    else
      some (-3 : Int32)
  else
    some (-1 : Int32)
set_option maxRecDepth 20000 in
set_option maxHeartbeats 4000000 in
theorem t_X8_odds {g : mG} {l : Launch} (hg : mOK g) (N : Nat) (p0 : Int32) (p1 : Int32) (h : mH) : mf g l 2 mX8_odds (fun r : Int32 => (some (Value.int r), h)) [.ref (mad g 0), .int p0, .int p1] h (x_X8_odds N p0 p1 h) := by
  refine mf_of (by decide) (Nat.le_of_ble_eq_true rfl) ?_
  show mw g l 2 mX8_odds (fun r : Int32 => (some (Value.int r), h)) 0 [(0, .ref (mad g 0)), (1, .int p0), (2, .int p1)] [] h _
  unfold x_X8_odds
  refine mw_aload_n (n := 1) (q := 0) dX8_odds_0 rfl rfl rfl ?_
  refine mw_getr (n := 4) (a := 0) (k := 0) cl8 (mkl hg (by decide) (by rfl)) (by decide) rfl rfl fl_X8_10 dX8_odds_1 rfl ?_
  refine mw_getr (n := 7) (a := 1) (k := 0) cl2 (mkl hg (by decide) (by rfl)) (by decide) rfl rfl fl_X8_80 dX8_odds_4 rfl ?_
  refine mw_iload_n (n := 8) (q := 1) dX8_odds_7 rfl rfl rfl ?_
  refine mw_callV (n := 11) (a := 2) (As := [.int p0]) cl6 (mkl hg (by decide) (by rfl)) (t_X6_hasCell hg 2 p0 (mkl hg (by decide) (by rfl)) h) (by decide) ok_X6_hasCell rfl rfl lk_X8_112 im_X6_hasCell se_X6_hasCell dX8_odds_8 rfl rfl (Nat.le_of_ble_eq_true rfl) (fun q1 _ => ?_)
  show mw g l _ _ _ 11 _ [.int q1] h _
  refine mw_if_ne (n := 14) (t := 16) dX8_odds_11 rfl (by decide) Iff.rfl (fun c2 => ?_) (fun c2 => ?_)
  · refine mw_aload_n (n := 17) (q := 0) dX8_odds_16 rfl rfl rfl ?_
    refine mw_getr (n := 20) (a := 0) (k := 0) cl8 (mkl hg (by decide) (by rfl)) (by decide) rfl rfl fl_X8_10 dX8_odds_17 rfl ?_
    refine mw_getr (n := 23) (a := 1) (k := 1) cl2 (mkl hg (by decide) (by rfl)) (by decide) rfl rfl fl_X8_95 dX8_odds_20 rfl ?_
    refine mw_geti (n := 26) (a := 5) (k := 3) cl1 (mkl hg (by decide) (by rfl)) (by decide) rfl rfl fl_X8_99 dX8_odds_23 rfl ?_
    refine mw_if_ne (n := 29) (t := 32) dX8_odds_26 rfl (by decide) Iff.rfl (fun c3 => ?_) (fun c3 => ?_)
    · refine mw_aload_n (n := 33) (q := 0) dX8_odds_32 rfl rfl rfl ?_
      refine mw_getr (n := 36) (a := 0) (k := 0) cl8 (mkl hg (by decide) (by rfl)) (by decide) rfl rfl fl_X8_10 dX8_odds_33 rfl ?_
      refine mw_getr (n := 39) (a := 1) (k := 1) cl2 (mkl hg (by decide) (by rfl)) (by decide) rfl rfl fl_X8_95 dX8_odds_36 rfl ?_
      refine mw_iload_n (n := 40) (q := 1) dX8_odds_39 rfl rfl rfl ?_
      refine mw_callV (n := 43) (a := 5) (As := [.int p0]) cl1 (mkl hg (by decide) (by rfl)) (t_X1_yesAt hg N 5 p0 (mkl hg (by decide) (by rfl)) h) (by decide) ok_X1_yesAt rfl rfl lk_X8_145 im_X1_yesAt se_X1_yesAt dX8_odds_40 rfl rfl (Nat.le_of_ble_eq_true rfl) (fun q4 _ => ?_)
      show mw g l _ _ _ 43 _ [.int q4] h _
      refine mw_aload_n (n := 44) (q := 0) dX8_odds_43 rfl rfl rfl ?_
      refine mw_getr (n := 47) (a := 0) (k := 0) cl8 (mkl hg (by decide) (by rfl)) (by decide) rfl rfl fl_X8_10 dX8_odds_44 rfl ?_
      refine mw_getr (n := 50) (a := 1) (k := 1) cl2 (mkl hg (by decide) (by rfl)) (by decide) rfl rfl fl_X8_95 dX8_odds_47 rfl ?_
      refine mw_geti (n := 53) (a := 5) (k := 3) cl1 (mkl hg (by decide) (by rfl)) (by decide) rfl rfl fl_X8_99 dX8_odds_50 rfl ?_
      refine mw_iload_n (n := 54) (q := 2) dX8_odds_53 rfl rfl rfl ?_
      refine mw_callS (n := 57) (As := [.int q4, .int (mgi h 5 3), .int p1]) (t_X8_inLeastTerms hg N q4 (mgi h 5 3) p1 h) (by decide) ok_X8_inLeastTerms rfl lk_X8_148 sm_X8_inLeastTerms dX8_odds_54 rfl rfl (Nat.le_of_ble_eq_true rfl) (fun q5 _ => ?_)
      show mw g l _ _ _ 57 _ [.int q5] h _
      exact mw_iret dX8_odds_57 rfl rfl
    · refine mw_bipush (n := 31) (v := -3) dX8_odds_29 rfl (by decide) ?_
      exact mw_iret dX8_odds_31 rfl rfl
  · refine mw_iconst (n := 15) (v := -1) dX8_odds_14 rfl (by decide) ?_
    exact mw_iret dX8_odds_15 rfl rfl
noncomputable def x_X8_ask_104 (N : Nat) (self21 : Int32 → Int32 → Int32 → Option (Int32)) (v1 : Int32) (v2 : Int32) (v3 : Int32) (v4 : Int32) (h : mH) : Option (Int32) :=
  self21 v2 v3 (v4 + (1 : Int32))
set_option maxRecDepth 20000 in
set_option maxHeartbeats 4000000 in
theorem b_X8_ask_104 {g : mG} {l : Launch} (hg : mOK g) (N : Nat) (v1 : Int32) (v2 : Int32) (v3 : Int32) (v4 : Int32) (h : mH) (self21 : Int32 → Int32 → Int32 → Option (Int32)) (hself21 : ∀ (v2 : Int32) (v3 : Int32) (v4 : Int32), mw g l 3 mX8_ask (fun r : Int32 => (some (Value.int r), h)) 21 [(0, .ref (mad g 0)), (1, .int v1), (2, .int v2), (3, .int v3), (4, .int v4)] [] h (self21 v2 v3 v4)) : mw g l 3 mX8_ask (fun r : Int32 => (some (Value.int r), h)) 104 [(0, .ref (mad g 0)), (1, .int v1), (2, .int v2), (3, .int v3), (4, .int v4)] [] h (x_X8_ask_104 N self21 v1 v2 v3 v4 h) := by
  unfold x_X8_ask_104
  refine mw_iinc (n := 107) (q := 4) (v := (v4 + (1 : Int32))) dX8_ask_104 rfl rfl rfl (by decide) rfl ?_
  refine mw_goto (n := 21) dX8_ask_107 (by decide) ?_
  refine mw_sub [1, 2, 3, 4, 0] rfl ?_
  exact hself21 v2 v3 (v4 + (1 : Int32))
noncomputable def x_X8_ask_98 (N : Nat) (self21 : Int32 → Int32 → Int32 → Option (Int32)) (v1 : Int32) (v4 : Int32) (v6 : Int32) (h : mH) : Option (Int32) :=
  x_X8_ask_104 N self21 v1 v4 v6 v4 h
set_option maxRecDepth 20000 in
set_option maxHeartbeats 4000000 in
theorem b_X8_ask_98 {g : mG} {l : Launch} (hg : mOK g) (N : Nat) (v1 : Int32) (v4 : Int32) (v6 : Int32) (h : mH) (self21 : Int32 → Int32 → Int32 → Option (Int32)) (hself21 : ∀ (v2 : Int32) (v3 : Int32) (v4 : Int32), mw g l 3 mX8_ask (fun r : Int32 => (some (Value.int r), h)) 21 [(0, .ref (mad g 0)), (1, .int v1), (2, .int v2), (3, .int v3), (4, .int v4)] [] h (self21 v2 v3 v4)) : mw g l 3 mX8_ask (fun r : Int32 => (some (Value.int r), h)) 98 [(0, .ref (mad g 0)), (1, .int v1), (4, .int v4), (6, .int v6)] [] h (x_X8_ask_98 N self21 v1 v4 v6 h) := by
  unfold x_X8_ask_98
  refine mw_iload (n := 100) (q := 2) dX8_ask_98 rfl rfl ?_
  refine mw_istore_n (n := 101) dX8_ask_100 rfl rfl (by decide) rfl ?_
  refine mw_iload (n := 103) (q := 4) dX8_ask_101 rfl rfl ?_
  refine mw_istore_n (n := 104) dX8_ask_103 rfl rfl (by decide) rfl ?_
  refine mw_sub [2, 3, 1, 0, 4] rfl ?_
  exact b_X8_ask_104 hg N v1 v4 v6 v4 h self21 hself21
noncomputable def x_X8_ask_21 (N : Nat) (v1 : Int32) (h : mH) (f : Nat) : Int32 → Int32 → Int32 → Option (Int32) :=
  Nat.rec (motive := fun _ => Int32 → Int32 → Int32 → Option (Int32)) (fun _ _ _ => none) (fun _ self21 => fun v2 v3 v4 => 
    (x_X6_cells 2 h).bind fun q1 =>
    if q1 ≤ v4 then
      some (if ¬ v1 = 0 then v3 else v2)
    else
      (x_X1_sureAt 5 v4 h).bind fun q4 =>
      if ¬ q4 = (2 : Int32) then
        x_X8_ask_104 N self21 v1 v2 v3 v4 h
      else
        (x_X1_yesAt N 5 v4 h).bind fun q6 =>
        (x_J9_max_7cf53 q6 ((mgi h 5 3) - q6)).bind fun q7 =>
        if v2 = (-9 : Int32) then
          x_X8_ask_98 N self21 v1 v4 q7 h
        else
          if v3 ≤ q7 then
            x_X8_ask_104 N self21 v1 v2 v3 v4 h
          else
            x_X8_ask_98 N self21 v1 v4 q7 h) f
theorem x_X8_ask_21_0 (N : Nat) (v1 : Int32) (h : mH) (v2 : Int32) (v3 : Int32) (v4 : Int32) : x_X8_ask_21 N v1 h 0 v2 v3 v4 = none := rfl
theorem x_X8_ask_21_s (N : Nat) (v1 : Int32) (h : mH) (f : Nat) (v2 : Int32) (v3 : Int32) (v4 : Int32) : x_X8_ask_21 N v1 h (f + 1) v2 v3 v4 = (
    (x_X6_cells 2 h).bind fun q1 =>
    if q1 ≤ v4 then
      some (if ¬ v1 = 0 then v3 else v2)
    else
      (x_X1_sureAt 5 v4 h).bind fun q4 =>
      if ¬ q4 = (2 : Int32) then
        x_X8_ask_104 N (x_X8_ask_21 N v1 h f) v1 v2 v3 v4 h
      else
        (x_X1_yesAt N 5 v4 h).bind fun q6 =>
        (x_J9_max_7cf53 q6 ((mgi h 5 3) - q6)).bind fun q7 =>
        if v2 = (-9 : Int32) then
          x_X8_ask_98 N (x_X8_ask_21 N v1 h f) v1 v4 q7 h
        else
          if v3 ≤ q7 then
            x_X8_ask_104 N (x_X8_ask_21 N v1 h f) v1 v2 v3 v4 h
          else
            x_X8_ask_98 N (x_X8_ask_21 N v1 h f) v1 v4 q7 h) := rfl
set_option maxRecDepth 20000 in
set_option maxHeartbeats 4000000 in
theorem b_X8_ask_21 {g : mG} {l : Launch} (hg : mOK g) (N : Nat) (v1 : Int32) (h : mH) (f : Nat) : ∀ (v2 : Int32) (v3 : Int32) (v4 : Int32), mw g l 3 mX8_ask (fun r : Int32 => (some (Value.int r), h)) 21 [(0, .ref (mad g 0)), (1, .int v1), (2, .int v2), (3, .int v3), (4, .int v4)] [] h (x_X8_ask_21 N v1 h f v2 v3 v4) := by
  induction f with
  | zero => intros; exact mw_none
  | succ f hself21 =>
    intro v2 v3 v4
    refine mw_eq (x_X8_ask_21_s N v1 h f v2 v3 v4) ?_
    generalize x_X8_ask_21 N v1 h f = self21 at hself21 ⊢
    refine mw_iload (n := 23) (q := 4) dX8_ask_21 rfl rfl ?_
    refine mw_aload_n (n := 24) (q := 0) dX8_ask_23 rfl rfl rfl ?_
    refine mw_getr (n := 27) (a := 0) (k := 0) cl8 (mkl hg (by decide) (by rfl)) (by decide) rfl rfl fl_X8_10 dX8_ask_24 rfl ?_
    refine mw_getr (n := 30) (a := 1) (k := 0) cl2 (mkl hg (by decide) (by rfl)) (by decide) rfl rfl fl_X8_80 dX8_ask_27 rfl ?_
    refine mw_callV (n := 33) (a := 2) (As := []) cl6 (mkl hg (by decide) (by rfl)) (t_X6_cells hg 2 (mkl hg (by decide) (by rfl)) h) (by decide) ok_X6_cells rfl rfl lk_X8_152 im_X6_cells se_X6_cells dX8_ask_30 rfl rfl (Nat.le_of_ble_eq_true rfl) (fun q1 _ => ?_)
    show mw g l _ _ _ 33 _ [.int q1, .int v4] h _
    refine mw_icmp_ge (n := 36) (t := 110) dX8_ask_33 rfl (by decide) Iff.rfl (fun c2 => ?_) (fun c2 => ?_)
    · refine mw_iload_n (n := 111) (q := 1) dX8_ask_110 rfl rfl rfl ?_
      refine mw_cutJ (pc' := 119) (lv' := [(0, .ref (mad g 0)), (1, .int v1), (2, .int v2), (3, .int v3), (4, .int v4)]) (st' := [.int (if ¬ v1 = 0 then v3 else v2)]) (fun J => ?_) ?_
      · refine mw_if_ne_m (n := 114) (t := 118) dX8_ask_111 rfl (by decide) (fun c3 => ?_) (fun c3 => ?_)
        · refine mw_iload_n (n := 119) (q := 3) dX8_ask_118 rfl rfl rfl ?_
          exact mw_topeq (if_pos c3).symm J
        · refine mw_iload_n (n := 115) (q := 2) dX8_ask_114 rfl rfl rfl ?_
          refine mw_goto (n := 119) dX8_ask_115 (by decide) ?_
          exact mw_topeq (if_neg c3).symm J
      exact mw_iret dX8_ask_119 rfl rfl
    · refine mw_aload_n (n := 37) (q := 0) dX8_ask_36 rfl rfl rfl ?_
      refine mw_getr (n := 40) (a := 0) (k := 0) cl8 (mkl hg (by decide) (by rfl)) (by decide) rfl rfl fl_X8_10 dX8_ask_37 rfl ?_
      refine mw_getr (n := 43) (a := 1) (k := 1) cl2 (mkl hg (by decide) (by rfl)) (by decide) rfl rfl fl_X8_95 dX8_ask_40 rfl ?_
      refine mw_iload (n := 45) (q := 4) dX8_ask_43 rfl rfl ?_
      refine mw_callV (n := 48) (a := 5) (As := [.int v4]) cl1 (mkl hg (by decide) (by rfl)) (t_X1_sureAt hg 5 v4 (mkl hg (by decide) (by rfl)) h) (by decide) ok_X1_sureAt rfl rfl lk_X8_142 im_X1_sureAt se_X1_sureAt dX8_ask_45 rfl rfl (Nat.le_of_ble_eq_true rfl) (fun q4 _ => ?_)
      show mw g l _ _ _ 48 _ [.int q4] h _
      refine mw_iconst (n := 49) (v := 2) dX8_ask_48 rfl (by decide) ?_
      refine mw_icmp_ne (n := 52) (t := 104) dX8_ask_49 rfl (by decide) Iff.rfl (fun c5 => ?_) (fun c5 => ?_)
      · exact b_X8_ask_104 hg N v1 v2 v3 v4 h self21 hself21
      · refine mw_aload_n (n := 53) (q := 0) dX8_ask_52 rfl rfl rfl ?_
        refine mw_getr (n := 56) (a := 0) (k := 0) cl8 (mkl hg (by decide) (by rfl)) (by decide) rfl rfl fl_X8_10 dX8_ask_53 rfl ?_
        refine mw_getr (n := 59) (a := 1) (k := 1) cl2 (mkl hg (by decide) (by rfl)) (by decide) rfl rfl fl_X8_95 dX8_ask_56 rfl ?_
        refine mw_iload (n := 61) (q := 4) dX8_ask_59 rfl rfl ?_
        refine mw_callV (n := 64) (a := 5) (As := [.int v4]) cl1 (mkl hg (by decide) (by rfl)) (t_X1_yesAt hg N 5 v4 (mkl hg (by decide) (by rfl)) h) (by decide) ok_X1_yesAt rfl rfl lk_X8_145 im_X1_yesAt se_X1_yesAt dX8_ask_61 rfl rfl (Nat.le_of_ble_eq_true rfl) (fun q6 _ => ?_)
        show mw g l _ _ _ 64 _ [.int q6] h _
        refine mw_istore (n := 66) dX8_ask_64 rfl (by decide) rfl ?_
        refine mw_iload (n := 68) (q := 0) dX8_ask_66 rfl rfl ?_
        refine mw_aload_n (n := 69) (q := 1) dX8_ask_68 rfl rfl rfl ?_
        refine mw_getr (n := 72) (a := 0) (k := 0) cl8 (mkl hg (by decide) (by rfl)) (by decide) rfl rfl fl_X8_10 dX8_ask_69 rfl ?_
        refine mw_getr (n := 75) (a := 1) (k := 1) cl2 (mkl hg (by decide) (by rfl)) (by decide) rfl rfl fl_X8_95 dX8_ask_72 rfl ?_
        refine mw_geti (n := 78) (a := 5) (k := 3) cl1 (mkl hg (by decide) (by rfl)) (by decide) rfl rfl fl_X8_99 dX8_ask_75 rfl ?_
        refine mw_iload (n := 80) (q := 0) dX8_ask_78 rfl rfl ?_
        refine mw_isub (n := 81) dX8_ask_80 rfl ?_
        refine mw_callS (n := 84) (As := [.int q6, .int ((mgi h 5 3) - q6)]) (t_J9_max_7cf53 q6 ((mgi h 5 3) - q6) h) (by decide) ok_J9_max_7cf53 rfl lk_X8_155 sm_J9_max_7cf53 dX8_ask_81 rfl rfl (Nat.le_of_ble_eq_true rfl) (fun q7 _ => ?_)
        show mw g l _ _ _ 84 _ [.int q7] h _
        refine mw_istore (n := 86) dX8_ask_84 rfl (by decide) rfl ?_
        refine mw_iload_n (n := 87) (q := 4) dX8_ask_86 rfl rfl rfl ?_
        refine mw_bipush (n := 89) (v := -9) dX8_ask_87 rfl (by decide) ?_
        refine mw_icmp_eq (n := 92) (t := 98) dX8_ask_89 rfl (by decide) Iff.rfl (fun c8 => ?_) (fun c8 => ?_)
        · refine mw_sub [2, 3, 6, 0] rfl ?_
          exact b_X8_ask_98 hg N v1 v4 q7 h self21 hself21
        · refine mw_iload (n := 94) (q := 0) dX8_ask_92 rfl rfl ?_
          refine mw_iload_n (n := 95) (q := 5) dX8_ask_94 rfl rfl rfl ?_
          refine mw_icmp_ge (n := 98) (t := 104) dX8_ask_95 rfl (by decide) Iff.rfl (fun c9 => ?_) (fun c9 => ?_)
          · refine mw_sub [2, 3, 4, 5, 6] rfl ?_
            exact b_X8_ask_104 hg N v1 v2 v3 v4 h self21 hself21
          · refine mw_sub [2, 3, 6, 0] rfl ?_
            exact b_X8_ask_98 hg N v1 v4 q7 h self21 hself21
noncomputable def x_X8_ask_12 (N : Nat) (v1 : Int32) (h : mH) : Option (Int32) :=
  x_X8_ask_21 N v1 h N (-9 : Int32) (-9 : Int32) (0 : Int32)
set_option maxRecDepth 20000 in
set_option maxHeartbeats 4000000 in
theorem b_X8_ask_12 {g : mG} {l : Launch} (hg : mOK g) (N : Nat) (v1 : Int32) (h : mH) : mw g l 3 mX8_ask (fun r : Int32 => (some (Value.int r), h)) 12 [(0, .ref (mad g 0)), (1, .int v1)] [] h (x_X8_ask_12 N v1 h) := by
  unfold x_X8_ask_12
  refine mw_bipush (n := 14) (v := -9) dX8_ask_12 rfl (by decide) ?_
  refine mw_istore_n (n := 15) dX8_ask_14 rfl rfl (by decide) rfl ?_
  refine mw_bipush (n := 17) (v := -9) dX8_ask_15 rfl (by decide) ?_
  refine mw_istore_n (n := 18) dX8_ask_17 rfl rfl (by decide) rfl ?_
  refine mw_iconst (n := 19) (v := 0) dX8_ask_18 rfl (by decide) ?_
  refine mw_istore (n := 21) dX8_ask_19 rfl (by decide) rfl ?_
  refine mw_sub [3, 4, 2, 1, 0] rfl ?_
  exact b_X8_ask_21 hg N v1 h N (-9 : Int32) (-9 : Int32) (0 : Int32)
noncomputable def x_X8_ask (N : Nat) (p0 : Int32) (h : mH) : Option (Int32) :=
  if p0 = 0 then
    x_X8_ask_12 N p0 h
  else
    if p0 = (1 : Int32) then
      x_X8_ask_12 N p0 h
    else
      some (-2 : Int32)
set_option maxRecDepth 20000 in
set_option maxHeartbeats 4000000 in
theorem t_X8_ask {g : mG} {l : Launch} (hg : mOK g) (N : Nat) (p0 : Int32) (h : mH) : mf g l 3 mX8_ask (fun r : Int32 => (some (Value.int r), h)) [.ref (mad g 0), .int p0] h (x_X8_ask N p0 h) := by
  refine mf_of (by decide) (Nat.le_of_ble_eq_true rfl) ?_
  show mw g l 3 mX8_ask (fun r : Int32 => (some (Value.int r), h)) 0 [(0, .ref (mad g 0)), (1, .int p0)] [] h _
  unfold x_X8_ask
  refine mw_iload_n (n := 1) (q := 1) dX8_ask_0 rfl rfl rfl ?_
  refine mw_if_eq (n := 4) (t := 12) dX8_ask_1 rfl (by decide) Iff.rfl (fun c1 => ?_) (fun c1 => ?_)
  · exact b_X8_ask_12 hg N p0 h
  · refine mw_iload_n (n := 5) (q := 1) dX8_ask_4 rfl rfl rfl ?_
    refine mw_iconst (n := 6) (v := 1) dX8_ask_5 rfl (by decide) ?_
    refine mw_icmp_eq (n := 9) (t := 12) dX8_ask_6 rfl (by decide) Iff.rfl (fun c2 => ?_) (fun c2 => ?_)
    · exact b_X8_ask_12 hg N p0 h
    · refine mw_bipush (n := 11) (v := -2) dX8_ask_9 rfl (by decide) ?_
      exact mw_iret dX8_ask_11 rfl rfl
noncomputable def x_X8_plane (N : Nat) (h : mH) : Option (Int32) :=
  (x_X1_numberOf N 5 (mgi h 2 6) h).bind fun q1 =>
  some q1
set_option maxRecDepth 20000 in
set_option maxHeartbeats 4000000 in
theorem t_X8_plane {g : mG} {l : Launch} (hg : mOK g) (N : Nat) (h : mH) : mf g l 1 mX8_plane (fun r : Int32 => (some (Value.int r), h)) [.ref (mad g 0)] h (x_X8_plane N h) := by
  refine mf_of (by decide) (Nat.le_of_ble_eq_true rfl) ?_
  show mw g l 1 mX8_plane (fun r : Int32 => (some (Value.int r), h)) 0 [(0, .ref (mad g 0))] [] h _
  unfold x_X8_plane
  refine mw_aload_n (n := 1) (q := 0) dX8_plane_0 rfl rfl rfl ?_
  refine mw_getr (n := 4) (a := 0) (k := 0) cl8 (mkl hg (by decide) (by rfl)) (by decide) rfl rfl fl_X8_10 dX8_plane_1 rfl ?_
  refine mw_getr (n := 7) (a := 1) (k := 1) cl2 (mkl hg (by decide) (by rfl)) (by decide) rfl rfl fl_X8_95 dX8_plane_4 rfl ?_
  refine mw_aload_n (n := 8) (q := 0) dX8_plane_7 rfl rfl rfl ?_
  refine mw_getr (n := 11) (a := 0) (k := 0) cl8 (mkl hg (by decide) (by rfl)) (by decide) rfl rfl fl_X8_10 dX8_plane_8 rfl ?_
  refine mw_getr (n := 14) (a := 1) (k := 0) cl2 (mkl hg (by decide) (by rfl)) (by decide) rfl rfl fl_X8_80 dX8_plane_11 rfl ?_
  refine mw_geti (n := 17) (a := 2) (k := 6) cl6 (mkl hg (by decide) (by rfl)) (by decide) rfl rfl fl_X8_91 dX8_plane_14 rfl ?_
  refine mw_callV (n := 20) (a := 5) (As := [.int (mgi h 2 6)]) cl1 (mkl hg (by decide) (by rfl)) (t_X1_numberOf hg N 5 (mgi h 2 6) (mkl hg (by decide) (by rfl)) h) (by decide) ok_X1_numberOf rfl rfl lk_X8_160 im_X1_numberOf se_X1_numberOf dX8_plane_17 rfl rfl (Nat.le_of_ble_eq_true rfl) (fun q1 _ => ?_)
  show mw g l _ _ _ 20 _ [.int q1] h _
  exact mw_iret dX8_plane_20 rfl rfl
noncomputable def x_X8_go (p0 : Int32) (h : mH) : Option (Int32 × mH) :=
  if p0 < 0 then
    some ((-1 : Int32), h)
  else
    if p0 < (mgi h 5 3) then
      mlet (mgi h 2 6) fun u3 =>
      (x_X0_add 2 h).bind fun q4 =>
      mck p0 310 <|
      mlet (msi q4 2 6 (mgi q4 7 (p0).toNatClampNeg)) fun h5 =>
      (x_J6_bitCount_0f7a4 (u3 ^^^ (mgi h5 2 6))).bind fun q6 =>
      some (q6, h5)
    else
      some ((-1 : Int32), h)
set_option maxRecDepth 20000 in
set_option maxHeartbeats 4000000 in
theorem t_X8_go {g : mG} {l : Launch} (hg : mOK g) (p0 : Int32) (h : mH) : mf g l 2 mX8_go (fun r : Int32 × mH => (some (Value.int r.1), r.2)) [.ref (mad g 0), .int p0] h (x_X8_go p0 h) := by
  refine mf_of (by decide) (Nat.le_of_ble_eq_true rfl) ?_
  show mw g l 2 mX8_go (fun r : Int32 × mH => (some (Value.int r.1), r.2)) 0 [(0, .ref (mad g 0)), (1, .int p0)] [] h _
  unfold x_X8_go
  refine mw_iload_n (n := 1) (q := 1) dX8_go_0 rfl rfl rfl ?_
  refine mw_if_lt (n := 4) (t := 18) dX8_go_1 rfl (by decide) Iff.rfl (fun c1 => ?_) (fun c1 => ?_)
  · refine mw_iconst (n := 19) (v := -1) dX8_go_18 rfl (by decide) ?_
    exact mw_iret dX8_go_19 rfl rfl
  · refine mw_iload_n (n := 5) (q := 1) dX8_go_4 rfl rfl rfl ?_
    refine mw_aload_n (n := 6) (q := 0) dX8_go_5 rfl rfl rfl ?_
    refine mw_getr (n := 9) (a := 0) (k := 0) cl8 (mkl hg (by decide) (by rfl)) (by decide) rfl rfl fl_X8_10 dX8_go_6 rfl ?_
    refine mw_getr (n := 12) (a := 1) (k := 1) cl2 (mkl hg (by decide) (by rfl)) (by decide) rfl rfl fl_X8_95 dX8_go_9 rfl ?_
    refine mw_geti (n := 15) (a := 5) (k := 3) cl1 (mkl hg (by decide) (by rfl)) (by decide) rfl rfl fl_X8_99 dX8_go_12 rfl ?_
    refine mw_icmp_lt (n := 18) (t := 20) dX8_go_15 rfl (by decide) Iff.rfl (fun c2 => ?_) (fun c2 => ?_)
    · refine mw_aload_n (n := 21) (q := 0) dX8_go_20 rfl rfl rfl ?_
      refine mw_getr (n := 24) (a := 0) (k := 0) cl8 (mkl hg (by decide) (by rfl)) (by decide) rfl rfl fl_X8_10 dX8_go_21 rfl ?_
      refine mw_getr (n := 27) (a := 1) (k := 0) cl2 (mkl hg (by decide) (by rfl)) (by decide) rfl rfl fl_X8_80 dX8_go_24 rfl ?_
      refine mw_geti (n := 30) (a := 2) (k := 6) cl6 (mkl hg (by decide) (by rfl)) (by decide) rfl rfl fl_X8_91 dX8_go_27 rfl ?_
      refine mw_letI (fun u3 => ?_)
      refine mw_istore_n (n := 31) dX8_go_30 rfl rfl (by decide) rfl ?_
      refine mw_aload_n (n := 32) (q := 1) dX8_go_31 rfl rfl rfl ?_
      refine mw_getr (n := 35) (a := 0) (k := 3) cl8 (mkl hg (by decide) (by rfl)) (by decide) rfl rfl fl_X8_29 dX8_go_32 rfl ?_
      refine mw_aload_n (n := 36) (q := 1) dX8_go_35 rfl rfl rfl ?_
      refine mw_getr (n := 39) (a := 0) (k := 0) cl8 (mkl hg (by decide) (by rfl)) (by decide) rfl rfl fl_X8_10 dX8_go_36 rfl ?_
      refine mw_getr (n := 42) (a := 1) (k := 0) cl2 (mkl hg (by decide) (by rfl)) (by decide) rfl rfl fl_X8_80 dX8_go_39 rfl ?_
      refine mw_callV (n := 45) (a := 20) (As := [.ref (mad g 2)]) cl0 (mkl hg (by decide) (by rfl)) (t_X0_add hg 2 (mkl hg (by decide) (by rfl)) h) (by decide) ok_X0_add rfl rfl lk_X8_163 im_X0_add se_X0_add dX8_go_42 rfl rfl (Nat.le_of_ble_eq_true rfl) (fun q4 _ => ?_)
      show mw g l _ _ _ 45 _ [] q4 _
      refine mw_aload_n (n := 46) (q := 1) dX8_go_45 rfl rfl rfl ?_
      refine mw_getr (n := 49) (a := 0) (k := 0) cl8 (mkl hg (by decide) (by rfl)) (by decide) rfl rfl fl_X8_10 dX8_go_46 rfl ?_
      refine mw_getr (n := 52) (a := 1) (k := 0) cl2 (mkl hg (by decide) (by rfl)) (by decide) rfl rfl fl_X8_80 dX8_go_49 rfl ?_
      refine mw_aload_n (n := 53) (q := 1) dX8_go_52 rfl rfl rfl ?_
      refine mw_getr (n := 56) (a := 0) (k := 0) cl8 (mkl hg (by decide) (by rfl)) (by decide) rfl rfl fl_X8_10 dX8_go_53 rfl ?_
      refine mw_getr (n := 59) (a := 1) (k := 1) cl2 (mkl hg (by decide) (by rfl)) (by decide) rfl rfl fl_X8_95 dX8_go_56 rfl ?_
      refine mw_getr (n := 62) (a := 5) (k := 2) cl1 (mkl hg (by decide) (by rfl)) (by decide) rfl rfl fl_X8_166 dX8_go_59 rfl ?_
      refine mw_iload_n (n := 63) (q := 2) dX8_go_62 rfl rfl rfl ?_
      refine mw_iald (n := 64) (a := 7) (N := 310) (mkl hg (by decide) (by rfl)) dX8_go_63 rfl ?_
      refine mw_puti (n := 67) (a := 2) (k := 6) cl6 ct6 (mkl hg (by decide) (by rfl)) (by decide) rfl rfl rfl rfl fl_X8_91 dX8_go_64 rfl (mw_leth (fun h5 => ?_))
      refine mw_iload_n (n := 68) (q := 0) dX8_go_67 rfl rfl rfl ?_
      refine mw_aload_n (n := 69) (q := 1) dX8_go_68 rfl rfl rfl ?_
      refine mw_getr (n := 72) (a := 0) (k := 0) cl8 (mkl hg (by decide) (by rfl)) (by decide) rfl rfl fl_X8_10 dX8_go_69 rfl ?_
      refine mw_getr (n := 75) (a := 1) (k := 0) cl2 (mkl hg (by decide) (by rfl)) (by decide) rfl rfl fl_X8_80 dX8_go_72 rfl ?_
      refine mw_geti (n := 78) (a := 2) (k := 6) cl6 (mkl hg (by decide) (by rfl)) (by decide) rfl rfl fl_X8_91 dX8_go_75 rfl ?_
      refine mw_ixor (n := 79) dX8_go_78 rfl ?_
      refine mw_callS (n := 82) (As := [.int (u3 ^^^ (mgi h5 2 6))]) (t_J6_bitCount_0f7a4 (u3 ^^^ (mgi h5 2 6)) h5) (by decide) ok_J6_bitCount_0f7a4 rfl lk_X8_170 sm_J6_bitCount_0f7a4 dX8_go_79 rfl rfl (Nat.le_of_ble_eq_true rfl) (fun q6 _ => ?_)
      show mw g l _ _ _ 82 _ [.int q6] h5 _
      exact mw_iret dX8_go_82 rfl rfl
    · refine mw_iconst (n := 19) (v := -1) dX8_go_18 rfl (by decide) ?_
      exact mw_iret dX8_go_19 rfl rfl
noncomputable def x_X8_swap (N : Nat) (p0 : Int32) (p1 : Int32) (p2 : Int32) (p3 : Int32) (h : mH) : Option (Int32 × mH) :=
  (x_X2_switchRefusal 1 p0 p1 p2 p3 h).bind fun q1 =>
  if q1 = 0 then
    (x_X0_add 2 h).bind fun q3 =>
    (x_X2_makeSwitch 1 p0 p1 p2 p3 q3).bind fun q4 =>
    (x_X6_switchCount N 2 q4).bind fun q5 =>
    some (q5, q4)
  else
    some (q1, h)
set_option maxRecDepth 20000 in
set_option maxHeartbeats 4000000 in
theorem t_X8_swap {g : mG} {l : Launch} (hg : mOK g) (N : Nat) (p0 : Int32) (p1 : Int32) (p2 : Int32) (p3 : Int32) (h : mH) : mf g l 4 mX8_swap (fun r : Int32 × mH => (some (Value.int r.1), r.2)) [.ref (mad g 0), .int p0, .int p1, .int p2, .int p3] h (x_X8_swap N p0 p1 p2 p3 h) := by
  refine mf_of (by decide) (Nat.le_of_ble_eq_true rfl) ?_
  show mw g l 4 mX8_swap (fun r : Int32 × mH => (some (Value.int r.1), r.2)) 0 [(0, .ref (mad g 0)), (1, .int p0), (2, .int p1), (3, .int p2), (4, .int p3)] [] h _
  unfold x_X8_swap
  refine mw_aload_n (n := 1) (q := 0) dX8_swap_0 rfl rfl rfl ?_
  refine mw_getr (n := 4) (a := 0) (k := 0) cl8 (mkl hg (by decide) (by rfl)) (by decide) rfl rfl fl_X8_10 dX8_swap_1 rfl ?_
  refine mw_iload_n (n := 5) (q := 1) dX8_swap_4 rfl rfl rfl ?_
  refine mw_iload_n (n := 6) (q := 2) dX8_swap_5 rfl rfl rfl ?_
  refine mw_iload_n (n := 7) (q := 3) dX8_swap_6 rfl rfl rfl ?_
  refine mw_iload (n := 9) (q := 4) dX8_swap_7 rfl rfl ?_
  refine mw_callV (n := 12) (a := 1) (As := [.int p0, .int p1, .int p2, .int p3]) cl2 (mkl hg (by decide) (by rfl)) (t_X2_switchRefusal hg 1 p0 p1 p2 p3 (mkl hg (by decide) (by rfl)) h) (by decide) ok_X2_switchRefusal rfl rfl lk_X8_175 im_X2_switchRefusal se_X2_switchRefusal dX8_swap_9 rfl rfl (Nat.le_of_ble_eq_true rfl) (fun q1 _ => ?_)
  show mw g l _ _ _ 12 _ [.int q1] h _
  refine mw_istore (n := 14) dX8_swap_12 rfl (by decide) rfl ?_
  refine mw_iload (n := 16) (q := 0) dX8_swap_14 rfl rfl ?_
  refine mw_if_eq (n := 19) (t := 22) dX8_swap_16 rfl (by decide) Iff.rfl (fun c2 => ?_) (fun c2 => ?_)
  · refine mw_aload_n (n := 23) (q := 1) dX8_swap_22 rfl rfl rfl ?_
    refine mw_getr (n := 26) (a := 0) (k := 3) cl8 (mkl hg (by decide) (by rfl)) (by decide) rfl rfl fl_X8_29 dX8_swap_23 rfl ?_
    refine mw_aload_n (n := 27) (q := 1) dX8_swap_26 rfl rfl rfl ?_
    refine mw_getr (n := 30) (a := 0) (k := 0) cl8 (mkl hg (by decide) (by rfl)) (by decide) rfl rfl fl_X8_10 dX8_swap_27 rfl ?_
    refine mw_getr (n := 33) (a := 1) (k := 0) cl2 (mkl hg (by decide) (by rfl)) (by decide) rfl rfl fl_X8_80 dX8_swap_30 rfl ?_
    refine mw_callV (n := 36) (a := 20) (As := [.ref (mad g 2)]) cl0 (mkl hg (by decide) (by rfl)) (t_X0_add hg 2 (mkl hg (by decide) (by rfl)) h) (by decide) ok_X0_add rfl rfl lk_X8_163 im_X0_add se_X0_add dX8_swap_33 rfl rfl (Nat.le_of_ble_eq_true rfl) (fun q3 _ => ?_)
    show mw g l _ _ _ 36 _ [] q3 _
    refine mw_aload_n (n := 37) (q := 1) dX8_swap_36 rfl rfl rfl ?_
    refine mw_getr (n := 40) (a := 0) (k := 0) cl8 (mkl hg (by decide) (by rfl)) (by decide) rfl rfl fl_X8_10 dX8_swap_37 rfl ?_
    refine mw_iload_n (n := 41) (q := 2) dX8_swap_40 rfl rfl rfl ?_
    refine mw_iload_n (n := 42) (q := 3) dX8_swap_41 rfl rfl rfl ?_
    refine mw_iload_n (n := 43) (q := 4) dX8_swap_42 rfl rfl rfl ?_
    refine mw_iload (n := 45) (q := 5) dX8_swap_43 rfl rfl ?_
    refine mw_callV (n := 48) (a := 1) (As := [.int p0, .int p1, .int p2, .int p3]) cl2 (mkl hg (by decide) (by rfl)) (t_X2_makeSwitch hg 1 p0 p1 p2 p3 (mkl hg (by decide) (by rfl)) q3) (by decide) ok_X2_makeSwitch rfl rfl lk_X8_179 im_X2_makeSwitch se_X2_makeSwitch dX8_swap_45 rfl rfl (Nat.le_of_ble_eq_true rfl) (fun q4 _ => ?_)
    show mw g l _ _ _ 48 _ [] q4 _
    refine mw_aload_n (n := 49) (q := 1) dX8_swap_48 rfl rfl rfl ?_
    refine mw_getr (n := 52) (a := 0) (k := 0) cl8 (mkl hg (by decide) (by rfl)) (by decide) rfl rfl fl_X8_10 dX8_swap_49 rfl ?_
    refine mw_getr (n := 55) (a := 1) (k := 0) cl2 (mkl hg (by decide) (by rfl)) (by decide) rfl rfl fl_X8_80 dX8_swap_52 rfl ?_
    refine mw_callV (n := 58) (a := 2) (As := []) cl6 (mkl hg (by decide) (by rfl)) (t_X6_switchCount hg N 2 (mkl hg (by decide) (by rfl)) q4) (by decide) ok_X6_switchCount rfl rfl lk_X8_183 im_X6_switchCount se_X6_switchCount dX8_swap_55 rfl rfl (Nat.le_of_ble_eq_true rfl) (fun q5 _ => ?_)
    show mw g l _ _ _ 58 _ [.int q5] q4 _
    exact mw_iret dX8_swap_58 rfl rfl
  · refine mw_iload (n := 21) (q := 0) dX8_swap_19 rfl rfl ?_
    exact mw_iret dX8_swap_21 rfl rfl
noncomputable def x_X8_setTotal (N : Nat) (p0 : Int32) (p1 : Int32) (p2 : Int32) (h : mH) : Option (Int32 × mH) :=
  (x_X2_totalRefusal 1 p0 p1 p2 h).bind fun q1 =>
  if q1 = 0 then
    (x_X0_add 2 h).bind fun q3 =>
    (x_X6_putTotal 2 p0 p1 p2 q3).bind fun q4 =>
    (x_X2_settle N 1 q4).bind fun q5 =>
    some ((mgi q5 5 3), q5)
  else
    some (q1, h)
set_option maxRecDepth 20000 in
set_option maxHeartbeats 4000000 in
theorem t_X8_setTotal {g : mG} {l : Launch} (hg : mOK g) (N : Nat) (p0 : Int32) (p1 : Int32) (p2 : Int32) (h : mH) : mf g l 10 mX8_setTotal (fun r : Int32 × mH => (some (Value.int r.1), r.2)) [.ref (mad g 0), .int p0, .int p1, .int p2] h (x_X8_setTotal N p0 p1 p2 h) := by
  refine mf_of (by decide) (Nat.le_of_ble_eq_true rfl) ?_
  show mw g l 10 mX8_setTotal (fun r : Int32 × mH => (some (Value.int r.1), r.2)) 0 [(0, .ref (mad g 0)), (1, .int p0), (2, .int p1), (3, .int p2)] [] h _
  unfold x_X8_setTotal
  refine mw_aload_n (n := 1) (q := 0) dX8_setTotal_0 rfl rfl rfl ?_
  refine mw_getr (n := 4) (a := 0) (k := 0) cl8 (mkl hg (by decide) (by rfl)) (by decide) rfl rfl fl_X8_10 dX8_setTotal_1 rfl ?_
  refine mw_iload_n (n := 5) (q := 1) dX8_setTotal_4 rfl rfl rfl ?_
  refine mw_iload_n (n := 6) (q := 2) dX8_setTotal_5 rfl rfl rfl ?_
  refine mw_iload_n (n := 7) (q := 3) dX8_setTotal_6 rfl rfl rfl ?_
  refine mw_callV (n := 10) (a := 1) (As := [.int p0, .int p1, .int p2]) cl2 (mkl hg (by decide) (by rfl)) (t_X2_totalRefusal hg 1 p0 p1 p2 (mkl hg (by decide) (by rfl)) h) (by decide) ok_X2_totalRefusal rfl rfl lk_X8_186 im_X2_totalRefusal se_X2_totalRefusal dX8_setTotal_7 rfl rfl (Nat.le_of_ble_eq_true rfl) (fun q1 _ => ?_)
  show mw g l _ _ _ 10 _ [.int q1] h _
  refine mw_istore (n := 12) dX8_setTotal_10 rfl (by decide) rfl ?_
  refine mw_iload (n := 14) (q := 0) dX8_setTotal_12 rfl rfl ?_
  refine mw_if_eq (n := 17) (t := 20) dX8_setTotal_14 rfl (by decide) Iff.rfl (fun c2 => ?_) (fun c2 => ?_)
  · refine mw_aload_n (n := 21) (q := 1) dX8_setTotal_20 rfl rfl rfl ?_
    refine mw_getr (n := 24) (a := 0) (k := 3) cl8 (mkl hg (by decide) (by rfl)) (by decide) rfl rfl fl_X8_29 dX8_setTotal_21 rfl ?_
    refine mw_aload_n (n := 25) (q := 1) dX8_setTotal_24 rfl rfl rfl ?_
    refine mw_getr (n := 28) (a := 0) (k := 0) cl8 (mkl hg (by decide) (by rfl)) (by decide) rfl rfl fl_X8_10 dX8_setTotal_25 rfl ?_
    refine mw_getr (n := 31) (a := 1) (k := 0) cl2 (mkl hg (by decide) (by rfl)) (by decide) rfl rfl fl_X8_80 dX8_setTotal_28 rfl ?_
    refine mw_callV (n := 34) (a := 20) (As := [.ref (mad g 2)]) cl0 (mkl hg (by decide) (by rfl)) (t_X0_add hg 2 (mkl hg (by decide) (by rfl)) h) (by decide) ok_X0_add rfl rfl lk_X8_163 im_X0_add se_X0_add dX8_setTotal_31 rfl rfl (Nat.le_of_ble_eq_true rfl) (fun q3 _ => ?_)
    show mw g l _ _ _ 34 _ [] q3 _
    refine mw_aload_n (n := 35) (q := 1) dX8_setTotal_34 rfl rfl rfl ?_
    refine mw_getr (n := 38) (a := 0) (k := 0) cl8 (mkl hg (by decide) (by rfl)) (by decide) rfl rfl fl_X8_10 dX8_setTotal_35 rfl ?_
    refine mw_getr (n := 41) (a := 1) (k := 0) cl2 (mkl hg (by decide) (by rfl)) (by decide) rfl rfl fl_X8_80 dX8_setTotal_38 rfl ?_
    refine mw_iload_n (n := 42) (q := 2) dX8_setTotal_41 rfl rfl rfl ?_
    refine mw_iload_n (n := 43) (q := 3) dX8_setTotal_42 rfl rfl rfl ?_
    refine mw_iload_n (n := 44) (q := 4) dX8_setTotal_43 rfl rfl rfl ?_
    refine mw_callV (n := 47) (a := 2) (As := [.int p0, .int p1, .int p2]) cl6 (mkl hg (by decide) (by rfl)) (t_X6_putTotal hg 2 p0 p1 p2 (mkl hg (by decide) (by rfl)) q3) (by decide) ok_X6_putTotal rfl rfl lk_X8_135 im_X6_putTotal se_X6_putTotal dX8_setTotal_44 rfl rfl (Nat.le_of_ble_eq_true rfl) (fun q4 _ => ?_)
    show mw g l _ _ _ 47 _ [] q4 _
    refine mw_aload_n (n := 48) (q := 1) dX8_setTotal_47 rfl rfl rfl ?_
    refine mw_getr (n := 51) (a := 0) (k := 0) cl8 (mkl hg (by decide) (by rfl)) (by decide) rfl rfl fl_X8_10 dX8_setTotal_48 rfl ?_
    refine mw_callV (n := 54) (a := 1) (As := []) cl2 (mkl hg (by decide) (by rfl)) (t_X2_settle hg N 1 (mkl hg (by decide) (by rfl)) q4) (by decide) ok_X2_settle rfl rfl lk_X8_65 im_X2_settle se_X2_settle dX8_setTotal_51 rfl rfl (Nat.le_of_ble_eq_true rfl) (fun q5 _ => ?_)
    show mw g l _ _ _ 54 _ [] q5 _
    refine mw_aload_n (n := 55) (q := 1) dX8_setTotal_54 rfl rfl rfl ?_
    refine mw_getr (n := 58) (a := 0) (k := 0) cl8 (mkl hg (by decide) (by rfl)) (by decide) rfl rfl fl_X8_10 dX8_setTotal_55 rfl ?_
    refine mw_getr (n := 61) (a := 1) (k := 1) cl2 (mkl hg (by decide) (by rfl)) (by decide) rfl rfl fl_X8_95 dX8_setTotal_58 rfl ?_
    refine mw_geti (n := 64) (a := 5) (k := 3) cl1 (mkl hg (by decide) (by rfl)) (by decide) rfl rfl fl_X8_99 dX8_setTotal_61 rfl ?_
    exact mw_iret dX8_setTotal_64 rfl rfl
  · refine mw_iload (n := 19) (q := 0) dX8_setTotal_17 rfl rfl ?_
    exact mw_iret dX8_setTotal_19 rfl rfl
noncomputable def x_X8_setPin (N : Nat) (p0 : Int32) (p1 : Int32) (h : mH) : Option (Int32 × mH) :=
  (x_X2_pinRefusal 1 p0 p1 h).bind fun q1 =>
  if q1 = 0 then
    (x_X0_add 2 h).bind fun q3 =>
    (x_X6_putPin 2 p0 p1 q3).bind fun q4 =>
    (x_X2_settle N 1 q4).bind fun q5 =>
    some ((mgi q5 5 3), q5)
  else
    some (q1, h)
set_option maxRecDepth 20000 in
set_option maxHeartbeats 4000000 in
theorem t_X8_setPin {g : mG} {l : Launch} (hg : mOK g) (N : Nat) (p0 : Int32) (p1 : Int32) (h : mH) : mf g l 10 mX8_setPin (fun r : Int32 × mH => (some (Value.int r.1), r.2)) [.ref (mad g 0), .int p0, .int p1] h (x_X8_setPin N p0 p1 h) := by
  refine mf_of (by decide) (Nat.le_of_ble_eq_true rfl) ?_
  show mw g l 10 mX8_setPin (fun r : Int32 × mH => (some (Value.int r.1), r.2)) 0 [(0, .ref (mad g 0)), (1, .int p0), (2, .int p1)] [] h _
  unfold x_X8_setPin
  refine mw_aload_n (n := 1) (q := 0) dX8_setPin_0 rfl rfl rfl ?_
  refine mw_getr (n := 4) (a := 0) (k := 0) cl8 (mkl hg (by decide) (by rfl)) (by decide) rfl rfl fl_X8_10 dX8_setPin_1 rfl ?_
  refine mw_iload_n (n := 5) (q := 1) dX8_setPin_4 rfl rfl rfl ?_
  refine mw_iload_n (n := 6) (q := 2) dX8_setPin_5 rfl rfl rfl ?_
  refine mw_callV (n := 9) (a := 1) (As := [.int p0, .int p1]) cl2 (mkl hg (by decide) (by rfl)) (t_X2_pinRefusal hg 1 p0 p1 (mkl hg (by decide) (by rfl)) h) (by decide) ok_X2_pinRefusal rfl rfl lk_X8_190 im_X2_pinRefusal se_X2_pinRefusal dX8_setPin_6 rfl rfl (Nat.le_of_ble_eq_true rfl) (fun q1 _ => ?_)
  show mw g l _ _ _ 9 _ [.int q1] h _
  refine mw_istore_n (n := 10) dX8_setPin_9 rfl rfl (by decide) rfl ?_
  refine mw_iload_n (n := 11) (q := 0) dX8_setPin_10 rfl rfl rfl ?_
  refine mw_if_eq (n := 14) (t := 16) dX8_setPin_11 rfl (by decide) Iff.rfl (fun c2 => ?_) (fun c2 => ?_)
  · refine mw_aload_n (n := 17) (q := 1) dX8_setPin_16 rfl rfl rfl ?_
    refine mw_getr (n := 20) (a := 0) (k := 3) cl8 (mkl hg (by decide) (by rfl)) (by decide) rfl rfl fl_X8_29 dX8_setPin_17 rfl ?_
    refine mw_aload_n (n := 21) (q := 1) dX8_setPin_20 rfl rfl rfl ?_
    refine mw_getr (n := 24) (a := 0) (k := 0) cl8 (mkl hg (by decide) (by rfl)) (by decide) rfl rfl fl_X8_10 dX8_setPin_21 rfl ?_
    refine mw_getr (n := 27) (a := 1) (k := 0) cl2 (mkl hg (by decide) (by rfl)) (by decide) rfl rfl fl_X8_80 dX8_setPin_24 rfl ?_
    refine mw_callV (n := 30) (a := 20) (As := [.ref (mad g 2)]) cl0 (mkl hg (by decide) (by rfl)) (t_X0_add hg 2 (mkl hg (by decide) (by rfl)) h) (by decide) ok_X0_add rfl rfl lk_X8_163 im_X0_add se_X0_add dX8_setPin_27 rfl rfl (Nat.le_of_ble_eq_true rfl) (fun q3 _ => ?_)
    show mw g l _ _ _ 30 _ [] q3 _
    refine mw_aload_n (n := 31) (q := 1) dX8_setPin_30 rfl rfl rfl ?_
    refine mw_getr (n := 34) (a := 0) (k := 0) cl8 (mkl hg (by decide) (by rfl)) (by decide) rfl rfl fl_X8_10 dX8_setPin_31 rfl ?_
    refine mw_getr (n := 37) (a := 1) (k := 0) cl2 (mkl hg (by decide) (by rfl)) (by decide) rfl rfl fl_X8_80 dX8_setPin_34 rfl ?_
    refine mw_iload_n (n := 38) (q := 2) dX8_setPin_37 rfl rfl rfl ?_
    refine mw_iload_n (n := 39) (q := 3) dX8_setPin_38 rfl rfl rfl ?_
    refine mw_callV (n := 42) (a := 2) (As := [.int p0, .int p1]) cl6 (mkl hg (by decide) (by rfl)) (t_X6_putPin hg 2 p0 p1 (mkl hg (by decide) (by rfl)) q3) (by decide) ok_X6_putPin rfl rfl lk_X8_193 im_X6_putPin se_X6_putPin dX8_setPin_39 rfl rfl (Nat.le_of_ble_eq_true rfl) (fun q4 _ => ?_)
    show mw g l _ _ _ 42 _ [] q4 _
    refine mw_aload_n (n := 43) (q := 1) dX8_setPin_42 rfl rfl rfl ?_
    refine mw_getr (n := 46) (a := 0) (k := 0) cl8 (mkl hg (by decide) (by rfl)) (by decide) rfl rfl fl_X8_10 dX8_setPin_43 rfl ?_
    refine mw_callV (n := 49) (a := 1) (As := []) cl2 (mkl hg (by decide) (by rfl)) (t_X2_settle hg N 1 (mkl hg (by decide) (by rfl)) q4) (by decide) ok_X2_settle rfl rfl lk_X8_65 im_X2_settle se_X2_settle dX8_setPin_46 rfl rfl (Nat.le_of_ble_eq_true rfl) (fun q5 _ => ?_)
    show mw g l _ _ _ 49 _ [] q5 _
    refine mw_aload_n (n := 50) (q := 1) dX8_setPin_49 rfl rfl rfl ?_
    refine mw_getr (n := 53) (a := 0) (k := 0) cl8 (mkl hg (by decide) (by rfl)) (by decide) rfl rfl fl_X8_10 dX8_setPin_50 rfl ?_
    refine mw_getr (n := 56) (a := 1) (k := 1) cl2 (mkl hg (by decide) (by rfl)) (by decide) rfl rfl fl_X8_95 dX8_setPin_53 rfl ?_
    refine mw_geti (n := 59) (a := 5) (k := 3) cl1 (mkl hg (by decide) (by rfl)) (by decide) rfl rfl fl_X8_99 dX8_setPin_56 rfl ?_
    exact mw_iret dX8_setPin_59 rfl rfl
  · refine mw_iload_n (n := 15) (q := 0) dX8_setPin_14 rfl rfl rfl ?_
    exact mw_iret dX8_setPin_15 rfl rfl
noncomputable def x_X8_undo (N : Nat) (h : mH) : Option (Int32 × mH) :=
  if ¬ (mgi h 20 2) = 0 then
    (x_X0_takeBack 2 h).bind fun q2 =>
    (x_X2_settle N 1 q2).bind fun q3 =>
    some ((mgi q3 20 2), q3)
  else
    some ((-3 : Int32), h)
set_option maxRecDepth 20000 in
set_option maxHeartbeats 4000000 in
theorem t_X8_undo {g : mG} {l : Launch} (hg : mOK g) (N : Nat) (h : mH) : mf g l 10 mX8_undo (fun r : Int32 × mH => (some (Value.int r.1), r.2)) [.ref (mad g 0)] h (x_X8_undo N h) := by
  refine mf_of (by decide) (Nat.le_of_ble_eq_true rfl) ?_
  show mw g l 10 mX8_undo (fun r : Int32 × mH => (some (Value.int r.1), r.2)) 0 [(0, .ref (mad g 0))] [] h _
  unfold x_X8_undo
  refine mw_aload_n (n := 1) (q := 0) dX8_undo_0 rfl rfl rfl ?_
  refine mw_getr (n := 4) (a := 0) (k := 3) cl8 (mkl hg (by decide) (by rfl)) (by decide) rfl rfl fl_X8_29 dX8_undo_1 rfl ?_
  refine mw_geti (n := 7) (a := 20) (k := 2) cl0 (mkl hg (by decide) (by rfl)) (by decide) rfl rfl fl_X8_94 dX8_undo_4 rfl ?_
  refine mw_if_ne (n := 10) (t := 13) dX8_undo_7 rfl (by decide) Iff.rfl (fun c1 => ?_) (fun c1 => ?_)
  · refine mw_aload_n (n := 14) (q := 0) dX8_undo_13 rfl rfl rfl ?_
    refine mw_getr (n := 17) (a := 0) (k := 3) cl8 (mkl hg (by decide) (by rfl)) (by decide) rfl rfl fl_X8_29 dX8_undo_14 rfl ?_
    refine mw_aload_n (n := 18) (q := 0) dX8_undo_17 rfl rfl rfl ?_
    refine mw_getr (n := 21) (a := 0) (k := 0) cl8 (mkl hg (by decide) (by rfl)) (by decide) rfl rfl fl_X8_10 dX8_undo_18 rfl ?_
    refine mw_getr (n := 24) (a := 1) (k := 0) cl2 (mkl hg (by decide) (by rfl)) (by decide) rfl rfl fl_X8_80 dX8_undo_21 rfl ?_
    refine mw_callV (n := 27) (a := 20) (As := [.ref (mad g 2)]) cl0 (mkl hg (by decide) (by rfl)) (t_X0_takeBack hg 2 (mkl hg (by decide) (by rfl)) h) (by decide) ok_X0_takeBack rfl rfl lk_X8_197 im_X0_takeBack se_X0_takeBack dX8_undo_24 rfl rfl (Nat.le_of_ble_eq_true rfl) (fun q2 _ => ?_)
    show mw g l _ _ _ 27 _ [] q2 _
    refine mw_aload_n (n := 28) (q := 0) dX8_undo_27 rfl rfl rfl ?_
    refine mw_getr (n := 31) (a := 0) (k := 0) cl8 (mkl hg (by decide) (by rfl)) (by decide) rfl rfl fl_X8_10 dX8_undo_28 rfl ?_
    refine mw_callV (n := 34) (a := 1) (As := []) cl2 (mkl hg (by decide) (by rfl)) (t_X2_settle hg N 1 (mkl hg (by decide) (by rfl)) q2) (by decide) ok_X2_settle rfl rfl lk_X8_65 im_X2_settle se_X2_settle dX8_undo_31 rfl rfl (Nat.le_of_ble_eq_true rfl) (fun q3 _ => ?_)
    show mw g l _ _ _ 34 _ [] q3 _
    refine mw_aload_n (n := 35) (q := 0) dX8_undo_34 rfl rfl rfl ?_
    refine mw_getr (n := 38) (a := 0) (k := 3) cl8 (mkl hg (by decide) (by rfl)) (by decide) rfl rfl fl_X8_29 dX8_undo_35 rfl ?_
    refine mw_geti (n := 41) (a := 20) (k := 2) cl0 (mkl hg (by decide) (by rfl)) (by decide) rfl rfl fl_X8_94 dX8_undo_38 rfl ?_
    exact mw_iret dX8_undo_41 rfl rfl
  · refine mw_bipush (n := 12) (v := -3) dX8_undo_10 rfl (by decide) ?_
    exact mw_iret dX8_undo_12 rfl rfl
noncomputable def x_X8_switches_12 (N : Nat) (v1 : Int32) (h : mH) : Option (Int32) :=
  if ¬ v1 = 0 then
    (x_X6_firstSwitch N 2 h).bind fun q2 =>
    some q2
  else
    (x_X6_switchCount N 2 h).bind fun q3 =>
    some q3
set_option maxRecDepth 20000 in
set_option maxHeartbeats 4000000 in
theorem b_X8_switches_12 {g : mG} {l : Launch} (hg : mOK g) (N : Nat) (v1 : Int32) (h : mH) : mw g l 3 mX8_switches (fun r : Int32 => (some (Value.int r), h)) 12 [(0, .ref (mad g 0)), (1, .int v1)] [] h (x_X8_switches_12 N v1 h) := by
  unfold x_X8_switches_12
  refine mw_iload_n (n := 13) (q := 1) dX8_switches_12 rfl rfl rfl ?_
  refine mw_if_ne (n := 16) (t := 29) dX8_switches_13 rfl (by decide) Iff.rfl (fun c1 => ?_) (fun c1 => ?_)
  · refine mw_aload_n (n := 30) (q := 0) dX8_switches_29 rfl rfl rfl ?_
    refine mw_getr (n := 33) (a := 0) (k := 0) cl8 (mkl hg (by decide) (by rfl)) (by decide) rfl rfl fl_X8_10 dX8_switches_30 rfl ?_
    refine mw_getr (n := 36) (a := 1) (k := 0) cl2 (mkl hg (by decide) (by rfl)) (by decide) rfl rfl fl_X8_80 dX8_switches_33 rfl ?_
    refine mw_callV (n := 39) (a := 2) (As := []) cl6 (mkl hg (by decide) (by rfl)) (t_X6_firstSwitch hg N 2 (mkl hg (by decide) (by rfl)) h) (by decide) ok_X6_firstSwitch rfl rfl lk_X8_200 im_X6_firstSwitch se_X6_firstSwitch dX8_switches_36 rfl rfl (Nat.le_of_ble_eq_true rfl) (fun q2 _ => ?_)
    show mw g l _ _ _ 39 _ [.int q2] h _
    exact mw_iret dX8_switches_39 rfl rfl
  · refine mw_aload_n (n := 17) (q := 0) dX8_switches_16 rfl rfl rfl ?_
    refine mw_getr (n := 20) (a := 0) (k := 0) cl8 (mkl hg (by decide) (by rfl)) (by decide) rfl rfl fl_X8_10 dX8_switches_17 rfl ?_
    refine mw_getr (n := 23) (a := 1) (k := 0) cl2 (mkl hg (by decide) (by rfl)) (by decide) rfl rfl fl_X8_80 dX8_switches_20 rfl ?_
    refine mw_callV (n := 26) (a := 2) (As := []) cl6 (mkl hg (by decide) (by rfl)) (t_X6_switchCount hg N 2 (mkl hg (by decide) (by rfl)) h) (by decide) ok_X6_switchCount rfl rfl lk_X8_183 im_X6_switchCount se_X6_switchCount dX8_switches_23 rfl rfl (Nat.le_of_ble_eq_true rfl) (fun q3 _ => ?_)
    show mw g l _ _ _ 26 _ [.int q3] h _
    refine mw_goto (n := 39) dX8_switches_26 (by decide) ?_
    exact mw_iret dX8_switches_39 rfl rfl
noncomputable def x_X8_switches (N : Nat) (p0 : Int32) (h : mH) : Option (Int32) :=
  if p0 = 0 then
    x_X8_switches_12 N p0 h
  else
    if p0 = (1 : Int32) then
      x_X8_switches_12 N p0 h
    else
      some (-2 : Int32)
set_option maxRecDepth 20000 in
set_option maxHeartbeats 4000000 in
theorem t_X8_switches {g : mG} {l : Launch} (hg : mOK g) (N : Nat) (p0 : Int32) (h : mH) : mf g l 3 mX8_switches (fun r : Int32 => (some (Value.int r), h)) [.ref (mad g 0), .int p0] h (x_X8_switches N p0 h) := by
  refine mf_of (by decide) (Nat.le_of_ble_eq_true rfl) ?_
  show mw g l 3 mX8_switches (fun r : Int32 => (some (Value.int r), h)) 0 [(0, .ref (mad g 0)), (1, .int p0)] [] h _
  unfold x_X8_switches
  refine mw_iload_n (n := 1) (q := 1) dX8_switches_0 rfl rfl rfl ?_
  refine mw_if_eq (n := 4) (t := 12) dX8_switches_1 rfl (by decide) Iff.rfl (fun c1 => ?_) (fun c1 => ?_)
  · exact b_X8_switches_12 hg N p0 h
  · refine mw_iload_n (n := 5) (q := 1) dX8_switches_4 rfl rfl rfl ?_
    refine mw_iconst (n := 6) (v := 1) dX8_switches_5 rfl (by decide) ?_
    refine mw_icmp_eq (n := 9) (t := 12) dX8_switches_6 rfl (by decide) Iff.rfl (fun c2 => ?_) (fun c2 => ?_)
    · exact b_X8_switches_12 hg N p0 h
    · refine mw_bipush (n := 11) (v := -2) dX8_switches_9 rfl (by decide) ?_
      exact mw_iret dX8_switches_11 rfl rfl
noncomputable def x_X8_reached (N : Nat) (h : mH) : Option (Int32 × mH) :=
  (x_X7_goFrom N 1 h).bind fun q1 =>
  some ((mgi q1 67 2), q1)
set_option maxRecDepth 20000 in
set_option maxHeartbeats 4000000 in
theorem t_X8_reached {g : mG} {l : Launch} (hg : mOK g) (N : Nat) (h : mH) : mf g l 6 mX8_reached (fun r : Int32 × mH => (some (Value.int r.1), r.2)) [.ref (mad g 0)] h (x_X8_reached N h) := by
  refine mf_of (by decide) (Nat.le_of_ble_eq_true rfl) ?_
  show mw g l 6 mX8_reached (fun r : Int32 × mH => (some (Value.int r.1), r.2)) 0 [(0, .ref (mad g 0))] [] h _
  unfold x_X8_reached
  refine mw_aload_n (n := 1) (q := 0) dX8_reached_0 rfl rfl rfl ?_
  refine mw_getr (n := 4) (a := 0) (k := 5) cl8 (mkl hg (by decide) (by rfl)) (by decide) rfl rfl fl_X8_43 dX8_reached_1 rfl ?_
  refine mw_aload_n (n := 5) (q := 0) dX8_reached_4 rfl rfl rfl ?_
  refine mw_getr (n := 8) (a := 0) (k := 0) cl8 (mkl hg (by decide) (by rfl)) (by decide) rfl rfl fl_X8_10 dX8_reached_5 rfl ?_
  refine mw_callV (n := 11) (a := 67) (As := [.ref (mad g 1)]) cl7 (mkl hg (by decide) (by rfl)) (t_X7_goFrom hg N 1 (mkl hg (by decide) (by rfl)) h) (by decide) ok_X7_goFrom rfl rfl lk_X8_203 im_X7_goFrom se_X7_goFrom dX8_reached_8 rfl rfl (Nat.le_of_ble_eq_true rfl) (fun q1 _ => ?_)
  show mw g l _ _ _ 11 _ [] q1 _
  refine mw_aload_n (n := 12) (q := 0) dX8_reached_11 rfl rfl rfl ?_
  refine mw_getr (n := 15) (a := 0) (k := 5) cl8 (mkl hg (by decide) (by rfl)) (by decide) rfl rfl fl_X8_43 dX8_reached_12 rfl ?_
  refine mw_geti (n := 18) (a := 67) (k := 2) cl7 (mkl hg (by decide) (by rfl)) (by decide) rfl rfl fl_X8_207 dX8_reached_15 rfl ?_
  exact mw_iret dX8_reached_18 rfl rfl
noncomputable def x_X8_apart (N : Nat) (p0 : Int32) (h : mH) : Option (Int32 × mH) :=
  if p0 < 0 then
    some ((-1 : Int32), h)
  else
    if p0 < (2 : Int32) then
      mck p0 2 <|
      if ¬ (mgi h 75 (p0).toNatClampNeg) = 0 then
        mck p0 2 <|
        if ¬ (mgi h (76 + 3 * (p0).toNatClampNeg) 0) = (mgi h 2 0) then
          some ((-9 : Int32), h)
        else
          if (mgi h (76 + 3 * (p0).toNatClampNeg) 1) = (mgi h 2 1) then
            (x_X7_goFrom N 1 h).bind fun q7 =>
            (x_X1_numberOf N 5 (mgi q7 (76 + 3 * (p0).toNatClampNeg) 6) q7).bind fun q8 =>
            (x_X7_stepsTo q8 q7).bind fun q9 =>
            some (q9, q7)
          else
            some ((-9 : Int32), h)
      else
        some ((-3 : Int32), h)
    else
      some ((-1 : Int32), h)
set_option maxRecDepth 20000 in
set_option maxHeartbeats 4000000 in
theorem t_X8_apart {g : mG} {l : Launch} (hg : mOK g) (N : Nat) (p0 : Int32) (h : mH) : mf g l 6 mX8_apart (fun r : Int32 × mH => (some (Value.int r.1), r.2)) [.ref (mad g 0), .int p0] h (x_X8_apart N p0 h) := by
  refine mf_of (by decide) (Nat.le_of_ble_eq_true rfl) ?_
  show mw g l 6 mX8_apart (fun r : Int32 × mH => (some (Value.int r.1), r.2)) 0 [(0, .ref (mad g 0)), (1, .int p0)] [] h _
  unfold x_X8_apart
  refine mw_iload_n (n := 1) (q := 1) dX8_apart_0 rfl rfl rfl ?_
  refine mw_if_lt (n := 4) (t := 9) dX8_apart_1 rfl (by decide) Iff.rfl (fun c1 => ?_) (fun c1 => ?_)
  · refine mw_iconst (n := 10) (v := -1) dX8_apart_9 rfl (by decide) ?_
    exact mw_iret dX8_apart_10 rfl rfl
  · refine mw_iload_n (n := 5) (q := 1) dX8_apart_4 rfl rfl rfl ?_
    refine mw_iconst (n := 6) (v := 2) dX8_apart_5 rfl (by decide) ?_
    refine mw_icmp_lt (n := 9) (t := 11) dX8_apart_6 rfl (by decide) Iff.rfl (fun c2 => ?_) (fun c2 => ?_)
    · refine mw_aload_n (n := 12) (q := 0) dX8_apart_11 rfl rfl rfl ?_
      refine mw_getr (n := 15) (a := 0) (k := 8) cl8 (mkl hg (by decide) (by rfl)) (by decide) rfl rfl fl_X8_60 dX8_apart_12 rfl ?_
      refine mw_iload_n (n := 16) (q := 1) dX8_apart_15 rfl rfl rfl ?_
      refine mw_zald (n := 17) (a := 75) (mkl hg (by decide) (by rfl)) dX8_apart_16 rfl ?_
      refine mw_if_ne (n := 20) (t := 23) dX8_apart_17 rfl (by decide) Iff.rfl (fun c3 => ?_) (fun c3 => ?_)
      · refine mw_aload_n (n := 24) (q := 0) dX8_apart_23 rfl rfl rfl ?_
        refine mw_getr (n := 27) (a := 0) (k := 7) cl8 (mkl hg (by decide) (by rfl)) (by decide) rfl rfl fl_X8_56 dX8_apart_24 rfl ?_
        refine mw_iload_n (n := 28) (q := 1) dX8_apart_27 rfl rfl rfl ?_
        refine mw_aald61 (n := 29) (a := 74) (mkl hg (by decide) (by rfl)) dX8_apart_28 rfl (fun hi4 => ?_)
        refine mw_astore_n (n := 30) dX8_apart_29 rfl rfl (by decide) rfl ?_
        refine mw_aload_n (n := 31) (q := 0) dX8_apart_30 rfl rfl rfl ?_
        refine mw_geti (n := 34) (a := (76 + 3 * (p0).toNatClampNeg)) (k := 0) cl6 (mkA61 hg hi4) (by decide) rfl rfl fl_X8_210 dX8_apart_31 rfl ?_
        refine mw_aload_n (n := 35) (q := 1) dX8_apart_34 rfl rfl rfl ?_
        refine mw_getr (n := 38) (a := 0) (k := 0) cl8 (mkl hg (by decide) (by rfl)) (by decide) rfl rfl fl_X8_10 dX8_apart_35 rfl ?_
        refine mw_getr (n := 41) (a := 1) (k := 0) cl2 (mkl hg (by decide) (by rfl)) (by decide) rfl rfl fl_X8_80 dX8_apart_38 rfl ?_
        refine mw_geti (n := 44) (a := 2) (k := 0) cl6 (mkl hg (by decide) (by rfl)) (by decide) rfl rfl fl_X8_210 dX8_apart_41 rfl ?_
        refine mw_icmp_ne (n := 47) (t := 64) dX8_apart_44 rfl (by decide) Iff.rfl (fun c5 => ?_) (fun c5 => ?_)
        · refine mw_bipush (n := 66) (v := -9) dX8_apart_64 rfl (by decide) ?_
          exact mw_iret dX8_apart_66 rfl rfl
        · refine mw_aload_n (n := 48) (q := 0) dX8_apart_47 rfl rfl rfl ?_
          refine mw_geti (n := 51) (a := (76 + 3 * (p0).toNatClampNeg)) (k := 1) cl6 (mkA61 hg hi4) (by decide) rfl rfl fl_X8_213 dX8_apart_48 rfl ?_
          refine mw_aload_n (n := 52) (q := 1) dX8_apart_51 rfl rfl rfl ?_
          refine mw_getr (n := 55) (a := 0) (k := 0) cl8 (mkl hg (by decide) (by rfl)) (by decide) rfl rfl fl_X8_10 dX8_apart_52 rfl ?_
          refine mw_getr (n := 58) (a := 1) (k := 0) cl2 (mkl hg (by decide) (by rfl)) (by decide) rfl rfl fl_X8_80 dX8_apart_55 rfl ?_
          refine mw_geti (n := 61) (a := 2) (k := 1) cl6 (mkl hg (by decide) (by rfl)) (by decide) rfl rfl fl_X8_213 dX8_apart_58 rfl ?_
          refine mw_icmp_eq (n := 64) (t := 67) dX8_apart_61 rfl (by decide) Iff.rfl (fun c6 => ?_) (fun c6 => ?_)
          · refine mw_aload_n (n := 68) (q := 1) dX8_apart_67 rfl rfl rfl ?_
            refine mw_getr (n := 71) (a := 0) (k := 5) cl8 (mkl hg (by decide) (by rfl)) (by decide) rfl rfl fl_X8_43 dX8_apart_68 rfl ?_
            refine mw_aload_n (n := 72) (q := 1) dX8_apart_71 rfl rfl rfl ?_
            refine mw_getr (n := 75) (a := 0) (k := 0) cl8 (mkl hg (by decide) (by rfl)) (by decide) rfl rfl fl_X8_10 dX8_apart_72 rfl ?_
            refine mw_callV (n := 78) (a := 67) (As := [.ref (mad g 1)]) cl7 (mkl hg (by decide) (by rfl)) (t_X7_goFrom hg N 1 (mkl hg (by decide) (by rfl)) h) (by decide) ok_X7_goFrom rfl rfl lk_X8_203 im_X7_goFrom se_X7_goFrom dX8_apart_75 rfl rfl (Nat.le_of_ble_eq_true rfl) (fun q7 _ => ?_)
            show mw g l _ _ _ 78 _ [] q7 _
            refine mw_aload_n (n := 79) (q := 1) dX8_apart_78 rfl rfl rfl ?_
            refine mw_getr (n := 82) (a := 0) (k := 5) cl8 (mkl hg (by decide) (by rfl)) (by decide) rfl rfl fl_X8_43 dX8_apart_79 rfl ?_
            refine mw_aload_n (n := 83) (q := 1) dX8_apart_82 rfl rfl rfl ?_
            refine mw_getr (n := 86) (a := 0) (k := 0) cl8 (mkl hg (by decide) (by rfl)) (by decide) rfl rfl fl_X8_10 dX8_apart_83 rfl ?_
            refine mw_getr (n := 89) (a := 1) (k := 1) cl2 (mkl hg (by decide) (by rfl)) (by decide) rfl rfl fl_X8_95 dX8_apart_86 rfl ?_
            refine mw_aload_n (n := 90) (q := 0) dX8_apart_89 rfl rfl rfl ?_
            refine mw_geti (n := 93) (a := (76 + 3 * (p0).toNatClampNeg)) (k := 6) cl6 (mkA61 hg hi4) (by decide) rfl rfl fl_X8_91 dX8_apart_90 rfl ?_
            refine mw_callV (n := 96) (a := 5) (As := [.int (mgi q7 (76 + 3 * (p0).toNatClampNeg) 6)]) cl1 (mkl hg (by decide) (by rfl)) (t_X1_numberOf hg N 5 (mgi q7 (76 + 3 * (p0).toNatClampNeg) 6) (mkl hg (by decide) (by rfl)) q7) (by decide) ok_X1_numberOf rfl rfl lk_X8_160 im_X1_numberOf se_X1_numberOf dX8_apart_93 rfl rfl (Nat.le_of_ble_eq_true rfl) (fun q8 _ => ?_)
            show mw g l _ _ _ 96 _ [.int q8, .ref (mad g 67)] q7 _
            refine mw_callV (n := 99) (a := 67) (As := [.int q8]) cl7 (mkl hg (by decide) (by rfl)) (t_X7_stepsTo hg q8 q7) (by decide) ok_X7_stepsTo rfl rfl lk_X8_216 im_X7_stepsTo se_X7_stepsTo dX8_apart_96 rfl rfl (Nat.le_of_ble_eq_true rfl) (fun q9 _ => ?_)
            show mw g l _ _ _ 99 _ [.int q9] q7 _
            exact mw_iret dX8_apart_99 rfl rfl
          · refine mw_bipush (n := 66) (v := -9) dX8_apart_64 rfl (by decide) ?_
            exact mw_iret dX8_apart_66 rfl rfl
      · refine mw_bipush (n := 22) (v := -3) dX8_apart_20 rfl (by decide) ?_
        exact mw_iret dX8_apart_22 rfl rfl
    · refine mw_iconst (n := 10) (v := -1) dX8_apart_9 rfl (by decide) ?_
      exact mw_iret dX8_apart_10 rfl rfl
noncomputable def x_X8_key_38 (N : Nat) (h : mH) (f : Nat) : Int32 → Int32 → Option (Int32) :=
  Nat.rec (motive := fun _ => Int32 → Int32 → Option (Int32)) (fun _ _ => none) (fun _ self38 => fun v3 v4 => 
    if v4 ≤ 0 then
      some v3
    else
      mlet (v4 / (100 : Int32)) fun u2 =>
      self38 (v3 + (1 : Int32)) u2) f
theorem x_X8_key_38_0 (N : Nat) (h : mH) (v3 : Int32) (v4 : Int32) : x_X8_key_38 N h 0 v3 v4 = none := rfl
theorem x_X8_key_38_s (N : Nat) (h : mH) (f : Nat) (v3 : Int32) (v4 : Int32) : x_X8_key_38 N h (f + 1) v3 v4 = (
    if v4 ≤ 0 then
      some v3
    else
      mlet (v4 / (100 : Int32)) fun u2 =>
      (x_X8_key_38 N h f) (v3 + (1 : Int32)) u2) := rfl
set_option maxRecDepth 20000 in
set_option maxHeartbeats 4000000 in
theorem b_X8_key_38 {g : mG} {l : Launch} (hg : mOK g) (N : Nat) (h : mH) (f : Nat) : ∀ (v3 : Int32) (v4 : Int32), mw g l 4 mX8_key (fun r : Int32 => (some (Value.int r), h)) 38 [(3, .int v3), (4, .int v4)] [] h (x_X8_key_38 N h f v3 v4) := by
  induction f with
  | zero => intros; exact mw_none
  | succ f hself38 =>
    intro v3 v4
    refine mw_eq (x_X8_key_38_s N h f v3 v4) ?_
    generalize x_X8_key_38 N h f = self38 at hself38 ⊢
    refine mw_iload (n := 40) (q := 1) dX8_key_38 rfl rfl ?_
    refine mw_if_le (n := 43) (t := 56) dX8_key_40 rfl (by decide) Iff.rfl (fun c1 => ?_) (fun c1 => ?_)
    · refine mw_iload_n (n := 57) (q := 0) dX8_key_56 rfl rfl rfl ?_
      exact mw_iret dX8_key_57 rfl rfl
    · refine mw_iinc (n := 46) (q := 0) (v := (v3 + (1 : Int32))) dX8_key_43 rfl rfl rfl (by decide) rfl ?_
      refine mw_iload (n := 48) (q := 1) dX8_key_46 rfl rfl ?_
      refine mw_bipush (n := 50) (v := 100) dX8_key_48 rfl (by decide) ?_
      refine mw_idiv (n := 51) dX8_key_50 rfl (by decide) ?_
      refine mw_letI (fun u2 => ?_)
      refine mw_istore (n := 53) dX8_key_51 rfl (by decide) rfl ?_
      refine mw_goto (n := 38) dX8_key_53 (by decide) ?_
      refine mw_sub [1, 0] rfl ?_
      exact hself38 (v3 + (1 : Int32)) u2
noncomputable def x_X8_key_12 (N : Nat) (v1 : Int32) (h : mH) : Option (Int32) :=
  (x_X2_findKey N 1 h).bind fun q1 =>
  if q1 = (-9 : Int32) then
    some q1
  else
    if ¬ v1 = (1 : Int32) then
      x_X8_key_38 N h N (0 : Int32) q1
    else
      some q1
set_option maxRecDepth 20000 in
set_option maxHeartbeats 4000000 in
theorem b_X8_key_12 {g : mG} {l : Launch} (hg : mOK g) (N : Nat) (v1 : Int32) (h : mH) : mw g l 4 mX8_key (fun r : Int32 => (some (Value.int r), h)) 12 [(0, .ref (mad g 0)), (1, .int v1)] [] h (x_X8_key_12 N v1 h) := by
  unfold x_X8_key_12
  refine mw_aload_n (n := 13) (q := 0) dX8_key_12 rfl rfl rfl ?_
  refine mw_getr (n := 16) (a := 0) (k := 0) cl8 (mkl hg (by decide) (by rfl)) (by decide) rfl rfl fl_X8_10 dX8_key_13 rfl ?_
  refine mw_callV (n := 19) (a := 1) (As := []) cl2 (mkl hg (by decide) (by rfl)) (t_X2_findKey hg N 1 (mkl hg (by decide) (by rfl)) h) (by decide) ok_X2_findKey rfl rfl lk_X8_219 im_X2_findKey se_X2_findKey dX8_key_16 rfl rfl (Nat.le_of_ble_eq_true rfl) (fun q1 _ => ?_)
  show mw g l _ _ _ 19 _ [.int q1] h _
  refine mw_istore_n (n := 20) dX8_key_19 rfl rfl (by decide) rfl ?_
  refine mw_iload_n (n := 21) (q := 0) dX8_key_20 rfl rfl rfl ?_
  refine mw_bipush (n := 23) (v := -9) dX8_key_21 rfl (by decide) ?_
  refine mw_icmp_eq (n := 26) (t := 31) dX8_key_23 rfl (by decide) Iff.rfl (fun c2 => ?_) (fun c2 => ?_)
  · refine mw_iload_n (n := 32) (q := 0) dX8_key_31 rfl rfl rfl ?_
    exact mw_iret dX8_key_32 rfl rfl
  · refine mw_iload_n (n := 27) (q := 2) dX8_key_26 rfl rfl rfl ?_
    refine mw_iconst (n := 28) (v := 1) dX8_key_27 rfl (by decide) ?_
    refine mw_icmp_ne (n := 31) (t := 33) dX8_key_28 rfl (by decide) Iff.rfl (fun c3 => ?_) (fun c3 => ?_)
    · refine mw_iconst (n := 34) (v := 0) dX8_key_33 rfl (by decide) ?_
      refine mw_istore_n (n := 35) dX8_key_34 rfl rfl (by decide) rfl ?_
      refine mw_iload_n (n := 36) (q := 1) dX8_key_35 rfl rfl rfl ?_
      refine mw_istore (n := 38) dX8_key_36 rfl (by decide) rfl ?_
      refine mw_sub [1, 0] rfl ?_
      exact b_X8_key_38 hg N h N (0 : Int32) q1
    · refine mw_iload_n (n := 32) (q := 0) dX8_key_31 rfl rfl rfl ?_
      exact mw_iret dX8_key_32 rfl rfl
noncomputable def x_X8_key (N : Nat) (p0 : Int32) (h : mH) : Option (Int32) :=
  if p0 = 0 then
    x_X8_key_12 N p0 h
  else
    if p0 = (1 : Int32) then
      x_X8_key_12 N p0 h
    else
      some (-2 : Int32)
set_option maxRecDepth 20000 in
set_option maxHeartbeats 4000000 in
theorem t_X8_key {g : mG} {l : Launch} (hg : mOK g) (N : Nat) (p0 : Int32) (h : mH) : mf g l 4 mX8_key (fun r : Int32 => (some (Value.int r), h)) [.ref (mad g 0), .int p0] h (x_X8_key N p0 h) := by
  refine mf_of (by decide) (Nat.le_of_ble_eq_true rfl) ?_
  show mw g l 4 mX8_key (fun r : Int32 => (some (Value.int r), h)) 0 [(0, .ref (mad g 0)), (1, .int p0)] [] h _
  unfold x_X8_key
  refine mw_iload_n (n := 1) (q := 1) dX8_key_0 rfl rfl rfl ?_
  refine mw_if_eq (n := 4) (t := 12) dX8_key_1 rfl (by decide) Iff.rfl (fun c1 => ?_) (fun c1 => ?_)
  · exact b_X8_key_12 hg N p0 h
  · refine mw_iload_n (n := 5) (q := 1) dX8_key_4 rfl rfl rfl ?_
    refine mw_iconst (n := 6) (v := 1) dX8_key_5 rfl (by decide) ?_
    refine mw_icmp_eq (n := 9) (t := 12) dX8_key_6 rfl (by decide) Iff.rfl (fun c2 => ?_) (fun c2 => ?_)
    · exact b_X8_key_12 hg N p0 h
    · refine mw_bipush (n := 11) (v := -2) dX8_key_9 rfl (by decide) ?_
      exact mw_iret dX8_key_11 rfl rfl
noncomputable def x_X8_judge_56 (N : Nat) (v1 : Int32) (v2 : Int64) (f : Nat) : Int32 → mH → Option (Int32 × mH) :=
  Nat.rec (motive := fun _ => Int32 → mH → Option (Int32 × mH)) (fun _ _ => none) (fun _ self56 => fun v4 h => 
    if v1 ≤ v4 then
      some ((-9 : Int32), h)
    else
      mck ((v1 - (1 : Int32)) - v4) 4 <|
      mlet (mUnits (((v1 - (1 : Int32)) - v4)).toNatClampNeg) fun u2 =>
      mzdL u2 <|
      mck (1 : Int32) 4 <|
      mzdL (mUnits ((1 : Int32)).toNatClampNeg) <|
      mlet ((xlrem (v2 / u2) (mUnits ((1 : Int32)).toNatClampNeg))).toInt32 fun u3 =>
      (x_X2_takes N 8 u3 h).bind fun q4 =>
      if ¬ q4.1 = 0 then
        self56 (v4 + (1 : Int32)) q4.2
      else
        some (v4, q4.2)) f
theorem x_X8_judge_56_0 (N : Nat) (v1 : Int32) (v2 : Int64) (v4 : Int32) (h : mH) : x_X8_judge_56 N v1 v2 0 v4 h = none := rfl
theorem x_X8_judge_56_s (N : Nat) (v1 : Int32) (v2 : Int64) (f : Nat) (v4 : Int32) (h : mH) : x_X8_judge_56 N v1 v2 (f + 1) v4 h = (
    if v1 ≤ v4 then
      some ((-9 : Int32), h)
    else
      mck ((v1 - (1 : Int32)) - v4) 4 <|
      mlet (mUnits (((v1 - (1 : Int32)) - v4)).toNatClampNeg) fun u2 =>
      mzdL u2 <|
      mck (1 : Int32) 4 <|
      mzdL (mUnits ((1 : Int32)).toNatClampNeg) <|
      mlet ((xlrem (v2 / u2) (mUnits ((1 : Int32)).toNatClampNeg))).toInt32 fun u3 =>
      (x_X2_takes N 8 u3 h).bind fun q4 =>
      if ¬ q4.1 = 0 then
        (x_X8_judge_56 N v1 v2 f) (v4 + (1 : Int32)) q4.2
      else
        some (v4, q4.2)) := rfl
set_option maxRecDepth 20000 in
set_option maxHeartbeats 4000000 in
theorem b_X8_judge_56 {g : mG} {l : Launch} (hg : mOK g) (N : Nat) (v1 : Int32) (v2 : Int64) (f : Nat) : ∀ (v4 : Int32) (h : mH), mw g l 12 mX8_judge (fun r : Int32 × mH => (some (Value.int r.1), r.2)) 56 [(0, .ref (mad g 0)), (1, .int v1), (2, .long v2), (4, .int v4)] [] h (x_X8_judge_56 N v1 v2 f v4 h) := by
  induction f with
  | zero => intros; exact mw_none
  | succ f hself56 =>
    intro v4 h
    refine mw_eq (x_X8_judge_56_s N v1 v2 f v4 h) ?_
    generalize x_X8_judge_56 N v1 v2 f = self56 at hself56 ⊢
    refine mw_iload (n := 58) (q := 3) dX8_judge_56 rfl rfl ?_
    refine mw_iload_n (n := 59) (q := 1) dX8_judge_58 rfl rfl rfl ?_
    refine mw_icmp_ge (n := 62) (t := 108) dX8_judge_59 rfl (by decide) Iff.rfl (fun c1 => ?_) (fun c1 => ?_)
    · refine mw_bipush (n := 110) (v := -9) dX8_judge_108 rfl (by decide) ?_
      exact mw_iret dX8_judge_110 rfl rfl
    · refine mw_gsU (n := 65) fl_X8_222 dX8_judge_62 rfl ?_
      refine mw_iload_n (n := 66) (q := 1) dX8_judge_65 rfl rfl rfl ?_
      refine mw_iconst (n := 67) (v := 1) dX8_judge_66 rfl (by decide) ?_
      refine mw_isub (n := 68) dX8_judge_67 rfl ?_
      refine mw_iload (n := 70) (q := 3) dX8_judge_68 rfl rfl ?_
      refine mw_isub (n := 71) dX8_judge_70 rfl ?_
      refine mw_ldU (n := 72) dX8_judge_71 rfl ?_
      refine mw_letJ (fun u2 => ?_)
      refine mw_lstore (n := 74) dX8_judge_72 rfl (by decide) rfl ?_
      refine mw_lload_n (n := 75) (q := 3) dX8_judge_74 rfl rfl rfl ?_
      refine mw_lload (n := 77) (q := 0) dX8_judge_75 rfl rfl ?_
      refine mw_ldivC (n := 78) dX8_judge_77 rfl ?_
      refine mw_gsU (n := 81) fl_X8_222 dX8_judge_78 rfl ?_
      refine mw_iconst (n := 82) (v := 1) dX8_judge_81 rfl (by decide) ?_
      refine mw_ldU (n := 83) dX8_judge_82 rfl ?_
      refine mw_lremC (n := 84) dX8_judge_83 rfl ?_
      refine mw_l2i (n := 85) dX8_judge_84 rfl ?_
      refine mw_letI (fun u3 => ?_)
      refine mw_istore (n := 87) dX8_judge_85 rfl (by decide) rfl ?_
      refine mw_aload_n (n := 88) (q := 2) dX8_judge_87 rfl rfl rfl ?_
      refine mw_getr (n := 91) (a := 0) (k := 1) cl8 (mkl hg (by decide) (by rfl)) (by decide) rfl rfl fl_X8_16 dX8_judge_88 rfl ?_
      refine mw_iload (n := 93) (q := 0) dX8_judge_91 rfl rfl ?_
      refine mw_callV (n := 96) (a := 8) (As := [.int u3]) cl2 (mkl hg (by decide) (by rfl)) (t_X2_takes hg N 8 u3 (mkl hg (by decide) (by rfl)) h) (by decide) ok_X2_takes rfl rfl lk_X8_226 im_X2_takes se_X2_takes dX8_judge_93 rfl rfl (Nat.le_of_ble_eq_true rfl) (fun q4 _ => ?_)
      show mw g l _ _ _ 96 _ [.int q4.1] q4.2 _
      refine mw_if_ne (n := 99) (t := 102) dX8_judge_96 rfl (by decide) Iff.rfl (fun c5 => ?_) (fun c5 => ?_)
      · refine mw_iinc (n := 105) (q := 5) (v := (v4 + (1 : Int32))) dX8_judge_102 rfl rfl rfl (by decide) rfl ?_
        refine mw_goto (n := 56) dX8_judge_105 (by decide) ?_
        refine mw_sub [3, 4, 5, 0] rfl ?_
        exact hself56 (v4 + (1 : Int32)) q4.2
      · refine mw_iload (n := 101) (q := 5) dX8_judge_99 rfl rfl ?_
        exact mw_iret dX8_judge_101 rfl rfl
noncomputable def x_X8_judge (N : Nat) (p0 : Int32) (p1 : Int64) (h : mH) : Option (Int32 × mH) :=
  if p0 < (1 : Int32) then
    some ((-2 : Int32), h)
  else
    if (3 : Int32) < p0 then
      some ((-2 : Int32), h)
    else
      if (lg_cmp p1 (0 : Int64)) < 0 then
        some ((-2 : Int32), h)
      else
        mck p0 4 <|
        if (lg_cmp p1 (mUnits (p0).toNatClampNeg)) < 0 then
          (x_X6_become 9 2 h).bind fun q5 =>
          (x_X2_settle N 8 q5).bind fun q6 =>
          x_X8_judge_56 N p0 p1 N (0 : Int32) q6
        else
          some ((-2 : Int32), h)
set_option maxRecDepth 20000 in
set_option maxHeartbeats 4000000 in
theorem t_X8_judge {g : mG} {l : Launch} (hg : mOK g) (N : Nat) (p0 : Int32) (p1 : Int64) (h : mH) : mf g l 12 mX8_judge (fun r : Int32 × mH => (some (Value.int r.1), r.2)) [.ref (mad g 0), .int p0, .long p1] h (x_X8_judge N p0 p1 h) := by
  refine mf_of (by decide) (Nat.le_of_ble_eq_true rfl) ?_
  show mw g l 12 mX8_judge (fun r : Int32 × mH => (some (Value.int r.1), r.2)) 0 [(0, .ref (mad g 0)), (1, .int p0), (2, .long p1)] [] h _
  unfold x_X8_judge
  refine mw_iload_n (n := 1) (q := 1) dX8_judge_0 rfl rfl rfl ?_
  refine mw_iconst (n := 2) (v := 1) dX8_judge_1 rfl (by decide) ?_
  refine mw_icmp_lt (n := 5) (t := 26) dX8_judge_2 rfl (by decide) Iff.rfl (fun c1 => ?_) (fun c1 => ?_)
  · refine mw_bipush (n := 28) (v := -2) dX8_judge_26 rfl (by decide) ?_
    exact mw_iret dX8_judge_28 rfl rfl
  · refine mw_iload_n (n := 6) (q := 1) dX8_judge_5 rfl rfl rfl ?_
    refine mw_iconst (n := 7) (v := 3) dX8_judge_6 rfl (by decide) ?_
    refine mw_icmp_gt (n := 10) (t := 26) dX8_judge_7 rfl (by decide) Iff.rfl (fun c2 => ?_) (fun c2 => ?_)
    · refine mw_bipush (n := 28) (v := -2) dX8_judge_26 rfl (by decide) ?_
      exact mw_iret dX8_judge_28 rfl rfl
    · refine mw_lload_n (n := 11) (q := 2) dX8_judge_10 rfl rfl rfl ?_
      refine mw_lconst (n := 12) (v := 0) dX8_judge_11 rfl (by decide) ?_
      refine mw_lcmp (n := 13) dX8_judge_12 rfl ?_
      refine mw_if_lt (n := 16) (t := 26) dX8_judge_13 rfl (by decide) Iff.rfl (fun c3 => ?_) (fun c3 => ?_)
      · refine mw_bipush (n := 28) (v := -2) dX8_judge_26 rfl (by decide) ?_
        exact mw_iret dX8_judge_28 rfl rfl
      · refine mw_lload_n (n := 17) (q := 2) dX8_judge_16 rfl rfl rfl ?_
        refine mw_gsU (n := 20) fl_X8_222 dX8_judge_17 rfl ?_
        refine mw_iload_n (n := 21) (q := 1) dX8_judge_20 rfl rfl rfl ?_
        refine mw_ldU (n := 22) dX8_judge_21 rfl ?_
        refine mw_lcmp (n := 23) dX8_judge_22 rfl ?_
        refine mw_if_lt (n := 26) (t := 29) dX8_judge_23 rfl (by decide) Iff.rfl (fun c4 => ?_) (fun c4 => ?_)
        · refine mw_aload_n (n := 30) (q := 0) dX8_judge_29 rfl rfl rfl ?_
          refine mw_getr (n := 33) (a := 0) (k := 1) cl8 (mkl hg (by decide) (by rfl)) (by decide) rfl rfl fl_X8_16 dX8_judge_30 rfl ?_
          refine mw_getr (n := 36) (a := 8) (k := 0) cl2 (mkl hg (by decide) (by rfl)) (by decide) rfl rfl fl_X8_80 dX8_judge_33 rfl ?_
          refine mw_aload_n (n := 37) (q := 0) dX8_judge_36 rfl rfl rfl ?_
          refine mw_getr (n := 40) (a := 0) (k := 0) cl8 (mkl hg (by decide) (by rfl)) (by decide) rfl rfl fl_X8_10 dX8_judge_37 rfl ?_
          refine mw_getr (n := 43) (a := 1) (k := 0) cl2 (mkl hg (by decide) (by rfl)) (by decide) rfl rfl fl_X8_80 dX8_judge_40 rfl ?_
          refine mw_callV (n := 46) (a := 9) (As := [.ref (mad g 2)]) cl6 (mkl hg (by decide) (by rfl)) (t_X6_become hg 9 2 (mkl hg (by decide) (by rfl)) (mkl hg (by decide) (by rfl)) h) (by decide) ok_X6_become rfl rfl lk_X8_87 im_X6_become se_X6_become dX8_judge_43 rfl rfl (Nat.le_of_ble_eq_true rfl) (fun q5 _ => ?_)
          show mw g l _ _ _ 46 _ [] q5 _
          refine mw_aload_n (n := 47) (q := 0) dX8_judge_46 rfl rfl rfl ?_
          refine mw_getr (n := 50) (a := 0) (k := 1) cl8 (mkl hg (by decide) (by rfl)) (by decide) rfl rfl fl_X8_16 dX8_judge_47 rfl ?_
          refine mw_callV (n := 53) (a := 8) (As := []) cl2 (mkl hg (by decide) (by rfl)) (t_X2_settle hg N 8 (mkl hg (by decide) (by rfl)) q5) (by decide) ok_X2_settle rfl rfl lk_X8_65 im_X2_settle se_X2_settle dX8_judge_50 rfl rfl (Nat.le_of_ble_eq_true rfl) (fun q6 _ => ?_)
          show mw g l _ _ _ 53 _ [] q6 _
          refine mw_iconst (n := 54) (v := 0) dX8_judge_53 rfl (by decide) ?_
          refine mw_istore (n := 56) dX8_judge_54 rfl (by decide) rfl ?_
          refine mw_sub [1, 2, 3, 0] rfl ?_
          exact b_X8_judge_56 hg N p0 p1 N (0 : Int32) q6
        · refine mw_bipush (n := 28) (v := -2) dX8_judge_26 rfl (by decide) ?_
          exact mw_iret dX8_judge_28 rfl rfl
noncomputable def x_X8_see_68 (h : mH) : Option (Int32 × mH) :=
  mlet (msi h 0 11 ((mgi h 0 11) + (1 : Int32))) fun h1 =>
  some ((mgi h1 0 11), h1)
set_option maxRecDepth 20000 in
set_option maxHeartbeats 4000000 in
theorem b_X8_see_68 {g : mG} {l : Launch} (hg : mOK g) (h : mH) : mw g l 1 mX8_see (fun r : Int32 × mH => (some (Value.int r.1), r.2)) 68 [(0, .ref (mad g 0))] [] h (x_X8_see_68 h) := by
  unfold x_X8_see_68
  refine mw_aload_n (n := 69) (q := 0) dX8_see_68 rfl rfl rfl ?_
  refine mw_dup (n := 70) dX8_see_69 rfl rfl ?_
  refine mw_geti (n := 73) (a := 0) (k := 11) cl8 (mkl hg (by decide) (by rfl)) (by decide) rfl rfl fl_X8_229 dX8_see_70 rfl ?_
  refine mw_iconst (n := 74) (v := 1) dX8_see_73 rfl (by decide) ?_
  refine mw_iadd (n := 75) dX8_see_74 rfl ?_
  refine mw_puti (n := 78) (a := 0) (k := 11) cl8 ct8 (mkl hg (by decide) (by rfl)) (by decide) rfl rfl rfl rfl fl_X8_229 dX8_see_75 rfl (mw_leth (fun h1 => ?_))
  refine mw_aload_n (n := 79) (q := 0) dX8_see_78 rfl rfl rfl ?_
  refine mw_geti (n := 82) (a := 0) (k := 11) cl8 (mkl hg (by decide) (by rfl)) (by decide) rfl rfl fl_X8_229 dX8_see_79 rfl ?_
  exact mw_iret dX8_see_82 rfl rfl
noncomputable def x_X8_see_22 (v1 : Int32) (v2 : Int32) (h : mH) : Option (Int32 × mH) :=
  if (mgi h 0 11) < (6 : Int32) then
    if ¬ v2 = (1 : Int32) then
      (x_X8_bitOf v1).bind fun q3 =>
      mlet (msi h 0 10 ((mgi h 0 10) ||| q3)) fun h4 =>
      x_X8_see_68 h4
    else
      (x_X8_bitOf v1).bind fun q5 =>
      mlet (msi h 0 9 ((mgi h 0 9) ||| q5)) fun h6 =>
      x_X8_see_68 h6
  else
    some ((-4 : Int32), h)
set_option maxRecDepth 20000 in
set_option maxHeartbeats 4000000 in
theorem b_X8_see_22 {g : mG} {l : Launch} (hg : mOK g) (v1 : Int32) (v2 : Int32) (h : mH) : mw g l 1 mX8_see (fun r : Int32 × mH => (some (Value.int r.1), r.2)) 22 [(0, .ref (mad g 0)), (1, .int v1), (2, .int v2)] [] h (x_X8_see_22 v1 v2 h) := by
  unfold x_X8_see_22
  refine mw_aload_n (n := 23) (q := 0) dX8_see_22 rfl rfl rfl ?_
  refine mw_geti (n := 26) (a := 0) (k := 11) cl8 (mkl hg (by decide) (by rfl)) (by decide) rfl rfl fl_X8_229 dX8_see_23 rfl ?_
  refine mw_bipush (n := 28) (v := 6) dX8_see_26 rfl (by decide) ?_
  refine mw_icmp_lt (n := 31) (t := 34) dX8_see_28 rfl (by decide) Iff.rfl (fun c1 => ?_) (fun c1 => ?_)
  · refine mw_iload_n (n := 35) (q := 2) dX8_see_34 rfl rfl rfl ?_
    refine mw_iconst (n := 36) (v := 1) dX8_see_35 rfl (by decide) ?_
    refine mw_icmp_ne (n := 39) (t := 55) dX8_see_36 rfl (by decide) Iff.rfl (fun c2 => ?_) (fun c2 => ?_)
    · refine mw_aload_n (n := 56) (q := 0) dX8_see_55 rfl rfl rfl ?_
      refine mw_dup (n := 57) dX8_see_56 rfl rfl ?_
      refine mw_geti (n := 60) (a := 0) (k := 10) cl8 (mkl hg (by decide) (by rfl)) (by decide) rfl rfl fl_X8_238 dX8_see_57 rfl ?_
      refine mw_iload_n (n := 61) (q := 1) dX8_see_60 rfl rfl rfl ?_
      refine mw_callS (n := 64) (As := [.int v1]) (t_X8_bitOf hg v1 h) (by decide) ok_X8_bitOf rfl lk_X8_235 sm_X8_bitOf dX8_see_61 rfl rfl (Nat.le_of_ble_eq_true rfl) (fun q3 _ => ?_)
      show mw g l _ _ _ 64 _ [.int q3, .int (mgi h 0 10), .ref (mad g 0)] h _
      refine mw_ior (n := 65) dX8_see_64 rfl ?_
      refine mw_puti (n := 68) (a := 0) (k := 10) cl8 ct8 (mkl hg (by decide) (by rfl)) (by decide) rfl rfl rfl rfl fl_X8_238 dX8_see_65 rfl (mw_leth (fun h4 => ?_))
      refine mw_sub [0] rfl ?_
      exact b_X8_see_68 hg h4
    · refine mw_aload_n (n := 40) (q := 0) dX8_see_39 rfl rfl rfl ?_
      refine mw_dup (n := 41) dX8_see_40 rfl rfl ?_
      refine mw_geti (n := 44) (a := 0) (k := 9) cl8 (mkl hg (by decide) (by rfl)) (by decide) rfl rfl fl_X8_232 dX8_see_41 rfl ?_
      refine mw_iload_n (n := 45) (q := 1) dX8_see_44 rfl rfl rfl ?_
      refine mw_callS (n := 48) (As := [.int v1]) (t_X8_bitOf hg v1 h) (by decide) ok_X8_bitOf rfl lk_X8_235 sm_X8_bitOf dX8_see_45 rfl rfl (Nat.le_of_ble_eq_true rfl) (fun q5 _ => ?_)
      show mw g l _ _ _ 48 _ [.int q5, .int (mgi h 0 9), .ref (mad g 0)] h _
      refine mw_ior (n := 49) dX8_see_48 rfl ?_
      refine mw_puti (n := 52) (a := 0) (k := 9) cl8 ct8 (mkl hg (by decide) (by rfl)) (by decide) rfl rfl rfl rfl fl_X8_232 dX8_see_49 rfl (mw_leth (fun h6 => ?_))
      refine mw_goto (n := 68) dX8_see_52 (by decide) ?_
      refine mw_sub [0] rfl ?_
      exact b_X8_see_68 hg h6
  · refine mw_bipush (n := 33) (v := -4) dX8_see_31 rfl (by decide) ?_
    exact mw_iret dX8_see_33 rfl rfl
noncomputable def x_X8_see (p0 : Int32) (p1 : Int32) (h : mH) : Option (Int32 × mH) :=
  if p0 < 0 then
    some ((-2 : Int32), h)
  else
    if (20 : Int32) ≤ p0 then
      some ((-2 : Int32), h)
    else
      if p1 = 0 then
        x_X8_see_22 p0 p1 h
      else
        if p1 = (1 : Int32) then
          x_X8_see_22 p0 p1 h
        else
          some ((-2 : Int32), h)
set_option maxRecDepth 20000 in
set_option maxHeartbeats 4000000 in
theorem t_X8_see {g : mG} {l : Launch} (hg : mOK g) (p0 : Int32) (p1 : Int32) (h : mH) : mf g l 1 mX8_see (fun r : Int32 × mH => (some (Value.int r.1), r.2)) [.ref (mad g 0), .int p0, .int p1] h (x_X8_see p0 p1 h) := by
  refine mf_of (by decide) (Nat.le_of_ble_eq_true rfl) ?_
  show mw g l 1 mX8_see (fun r : Int32 × mH => (some (Value.int r.1), r.2)) 0 [(0, .ref (mad g 0)), (1, .int p0), (2, .int p1)] [] h _
  unfold x_X8_see
  refine mw_iload_n (n := 1) (q := 1) dX8_see_0 rfl rfl rfl ?_
  refine mw_if_lt (n := 4) (t := 19) dX8_see_1 rfl (by decide) Iff.rfl (fun c1 => ?_) (fun c1 => ?_)
  · refine mw_bipush (n := 21) (v := -2) dX8_see_19 rfl (by decide) ?_
    exact mw_iret dX8_see_21 rfl rfl
  · refine mw_iload_n (n := 5) (q := 1) dX8_see_4 rfl rfl rfl ?_
    refine mw_bipush (n := 7) (v := 20) dX8_see_5 rfl (by decide) ?_
    refine mw_icmp_ge (n := 10) (t := 19) dX8_see_7 rfl (by decide) Iff.rfl (fun c2 => ?_) (fun c2 => ?_)
    · refine mw_bipush (n := 21) (v := -2) dX8_see_19 rfl (by decide) ?_
      exact mw_iret dX8_see_21 rfl rfl
    · refine mw_iload_n (n := 11) (q := 2) dX8_see_10 rfl rfl rfl ?_
      refine mw_if_eq (n := 14) (t := 22) dX8_see_11 rfl (by decide) Iff.rfl (fun c3 => ?_) (fun c3 => ?_)
      · exact b_X8_see_22 hg p0 p1 h
      · refine mw_iload_n (n := 15) (q := 2) dX8_see_14 rfl rfl rfl ?_
        refine mw_iconst (n := 16) (v := 1) dX8_see_15 rfl (by decide) ?_
        refine mw_icmp_eq (n := 19) (t := 22) dX8_see_16 rfl (by decide) Iff.rfl (fun c4 => ?_) (fun c4 => ?_)
        · exact b_X8_see_22 hg p0 p1 h
        · refine mw_bipush (n := 21) (v := -2) dX8_see_19 rfl (by decide) ?_
          exact mw_iret dX8_see_21 rfl rfl
noncomputable def x_X8_unsee (h : mH) : Option (Int32 × mH) :=
  mlet (mgi h 0 11) fun u1 =>
  mlet (msi h 0 9 (0 : Int32)) fun h2 =>
  mlet (msi h2 0 10 (0 : Int32)) fun h3 =>
  mlet (msi h3 0 11 (0 : Int32)) fun h4 =>
  some (u1, h4)
set_option maxRecDepth 20000 in
set_option maxHeartbeats 4000000 in
theorem t_X8_unsee {g : mG} {l : Launch} (hg : mOK g) (h : mH) : mf g l 0 mX8_unsee (fun r : Int32 × mH => (some (Value.int r.1), r.2)) [.ref (mad g 0)] h (x_X8_unsee h) := by
  refine mf_of (by decide) (Nat.le_of_ble_eq_true rfl) ?_
  show mw g l 0 mX8_unsee (fun r : Int32 × mH => (some (Value.int r.1), r.2)) 0 [(0, .ref (mad g 0))] [] h _
  unfold x_X8_unsee
  refine mw_aload_n (n := 1) (q := 0) dX8_unsee_0 rfl rfl rfl ?_
  refine mw_geti (n := 4) (a := 0) (k := 11) cl8 (mkl hg (by decide) (by rfl)) (by decide) rfl rfl fl_X8_229 dX8_unsee_1 rfl ?_
  refine mw_letI (fun u1 => ?_)
  refine mw_istore_n (n := 5) dX8_unsee_4 rfl rfl (by decide) rfl ?_
  refine mw_aload_n (n := 6) (q := 1) dX8_unsee_5 rfl rfl rfl ?_
  refine mw_iconst (n := 7) (v := 0) dX8_unsee_6 rfl (by decide) ?_
  refine mw_puti (n := 10) (a := 0) (k := 9) cl8 ct8 (mkl hg (by decide) (by rfl)) (by decide) rfl rfl rfl rfl fl_X8_232 dX8_unsee_7 rfl (mw_leth (fun h2 => ?_))
  refine mw_aload_n (n := 11) (q := 1) dX8_unsee_10 rfl rfl rfl ?_
  refine mw_iconst (n := 12) (v := 0) dX8_unsee_11 rfl (by decide) ?_
  refine mw_puti (n := 15) (a := 0) (k := 10) cl8 ct8 (mkl hg (by decide) (by rfl)) (by decide) rfl rfl rfl rfl fl_X8_238 dX8_unsee_12 rfl (mw_leth (fun h3 => ?_))
  refine mw_aload_n (n := 16) (q := 1) dX8_unsee_15 rfl rfl rfl ?_
  refine mw_iconst (n := 17) (v := 0) dX8_unsee_16 rfl (by decide) ?_
  refine mw_puti (n := 20) (a := 0) (k := 11) cl8 ct8 (mkl hg (by decide) (by rfl)) (by decide) rfl rfl rfl rfl fl_X8_229 dX8_unsee_17 rfl (mw_leth (fun h4 => ?_))
  refine mw_iload_n (n := 21) (q := 0) dX8_unsee_20 rfl rfl rfl ?_
  exact mw_iret dX8_unsee_21 rfl rfl
noncomputable def x_X8_which_90 (N : Nat) (self20 : Int32 → Int32 → Int32 → Option (Int32)) (v1 : Int32) (v2 : Int32) (v3 : Int32) (v4 : Int32) (h : mH) : Option (Int32) :=
  self20 v2 v3 (v4 + (1 : Int32))
set_option maxRecDepth 20000 in
set_option maxHeartbeats 4000000 in
theorem b_X8_which_90 {g : mG} {l : Launch} (hg : mOK g) (N : Nat) (v1 : Int32) (v2 : Int32) (v3 : Int32) (v4 : Int32) (h : mH) (self20 : Int32 → Int32 → Int32 → Option (Int32)) (hself20 : ∀ (v2 : Int32) (v3 : Int32) (v4 : Int32), mw g l 0 mX8_which (fun r : Int32 => (some (Value.int r), h)) 20 [(0, .ref (mad g 0)), (1, .int v1), (2, .int v2), (3, .int v3), (4, .int v4)] [] h (self20 v2 v3 v4)) : mw g l 0 mX8_which (fun r : Int32 => (some (Value.int r), h)) 90 [(0, .ref (mad g 0)), (1, .int v1), (2, .int v2), (3, .int v3), (4, .int v4)] [] h (x_X8_which_90 N self20 v1 v2 v3 v4 h) := by
  unfold x_X8_which_90
  refine mw_iinc (n := 93) (q := 4) (v := (v4 + (1 : Int32))) dX8_which_90 rfl rfl rfl (by decide) rfl ?_
  refine mw_goto (n := 20) dX8_which_93 (by decide) ?_
  refine mw_sub [1, 2, 3, 4, 0] rfl ?_
  exact hself20 v2 v3 (v4 + (1 : Int32))
noncomputable def x_X8_which_20 (N : Nat) (v1 : Int32) (h : mH) (f : Nat) : Int32 → Int32 → Int32 → Option (Int32) :=
  Nat.rec (motive := fun _ => Int32 → Int32 → Int32 → Option (Int32)) (fun _ _ _ => none) (fun _ self20 => fun v2 v3 v4 => 
    if (mgi h 5 3) ≤ v4 then
      some (if ¬ v1 = 0 then v3 else v2)
    else
      mck v4 310 <|
      mlet (mgi h 7 (v4).toNatClampNeg) fun u3 =>
      if ¬ (u3 &&& (mgi h 0 9)) = (mgi h 0 9) then
        x_X8_which_90 N self20 v1 v2 v3 v4 h
      else
        if ¬ (u3 &&& (mgi h 0 10)) = 0 then
          x_X8_which_90 N self20 v1 v2 v3 v4 h
        else
          mlet (if ¬ v3 = (-9 : Int32) then v3 else v4) fun u7 =>
          x_X8_which_90 N self20 v1 (v2 + (1 : Int32)) u7 v4 h) f
theorem x_X8_which_20_0 (N : Nat) (v1 : Int32) (h : mH) (v2 : Int32) (v3 : Int32) (v4 : Int32) : x_X8_which_20 N v1 h 0 v2 v3 v4 = none := rfl
theorem x_X8_which_20_s (N : Nat) (v1 : Int32) (h : mH) (f : Nat) (v2 : Int32) (v3 : Int32) (v4 : Int32) : x_X8_which_20 N v1 h (f + 1) v2 v3 v4 = (
    if (mgi h 5 3) ≤ v4 then
      some (if ¬ v1 = 0 then v3 else v2)
    else
      mck v4 310 <|
      mlet (mgi h 7 (v4).toNatClampNeg) fun u3 =>
      if ¬ (u3 &&& (mgi h 0 9)) = (mgi h 0 9) then
        x_X8_which_90 N (x_X8_which_20 N v1 h f) v1 v2 v3 v4 h
      else
        if ¬ (u3 &&& (mgi h 0 10)) = 0 then
          x_X8_which_90 N (x_X8_which_20 N v1 h f) v1 v2 v3 v4 h
        else
          mlet (if ¬ v3 = (-9 : Int32) then v3 else v4) fun u7 =>
          x_X8_which_90 N (x_X8_which_20 N v1 h f) v1 (v2 + (1 : Int32)) u7 v4 h) := rfl
set_option maxRecDepth 20000 in
set_option maxHeartbeats 4000000 in
theorem b_X8_which_20 {g : mG} {l : Launch} (hg : mOK g) (N : Nat) (v1 : Int32) (h : mH) (f : Nat) : ∀ (v2 : Int32) (v3 : Int32) (v4 : Int32), mw g l 0 mX8_which (fun r : Int32 => (some (Value.int r), h)) 20 [(0, .ref (mad g 0)), (1, .int v1), (2, .int v2), (3, .int v3), (4, .int v4)] [] h (x_X8_which_20 N v1 h f v2 v3 v4) := by
  induction f with
  | zero => intros; exact mw_none
  | succ f hself20 =>
    intro v2 v3 v4
    refine mw_eq (x_X8_which_20_s N v1 h f v2 v3 v4) ?_
    generalize x_X8_which_20 N v1 h f = self20 at hself20 ⊢
    refine mw_iload (n := 22) (q := 4) dX8_which_20 rfl rfl ?_
    refine mw_aload_n (n := 23) (q := 0) dX8_which_22 rfl rfl rfl ?_
    refine mw_getr (n := 26) (a := 0) (k := 0) cl8 (mkl hg (by decide) (by rfl)) (by decide) rfl rfl fl_X8_10 dX8_which_23 rfl ?_
    refine mw_getr (n := 29) (a := 1) (k := 1) cl2 (mkl hg (by decide) (by rfl)) (by decide) rfl rfl fl_X8_95 dX8_which_26 rfl ?_
    refine mw_geti (n := 32) (a := 5) (k := 3) cl1 (mkl hg (by decide) (by rfl)) (by decide) rfl rfl fl_X8_99 dX8_which_29 rfl ?_
    refine mw_icmp_ge (n := 35) (t := 96) dX8_which_32 rfl (by decide) Iff.rfl (fun c1 => ?_) (fun c1 => ?_)
    · refine mw_iload_n (n := 97) (q := 1) dX8_which_96 rfl rfl rfl ?_
      refine mw_cutJ (pc' := 105) (lv' := [(0, .ref (mad g 0)), (1, .int v1), (2, .int v2), (3, .int v3), (4, .int v4)]) (st' := [.int (if ¬ v1 = 0 then v3 else v2)]) (fun J => ?_) ?_
      · refine mw_if_ne_m (n := 100) (t := 104) dX8_which_97 rfl (by decide) (fun c2 => ?_) (fun c2 => ?_)
        · refine mw_iload_n (n := 105) (q := 3) dX8_which_104 rfl rfl rfl ?_
          exact mw_topeq (if_pos c2).symm J
        · refine mw_iload_n (n := 101) (q := 2) dX8_which_100 rfl rfl rfl ?_
          refine mw_goto (n := 105) dX8_which_101 (by decide) ?_
          exact mw_topeq (if_neg c2).symm J
      exact mw_iret dX8_which_105 rfl rfl
    · refine mw_aload_n (n := 36) (q := 0) dX8_which_35 rfl rfl rfl ?_
      refine mw_getr (n := 39) (a := 0) (k := 0) cl8 (mkl hg (by decide) (by rfl)) (by decide) rfl rfl fl_X8_10 dX8_which_36 rfl ?_
      refine mw_getr (n := 42) (a := 1) (k := 1) cl2 (mkl hg (by decide) (by rfl)) (by decide) rfl rfl fl_X8_95 dX8_which_39 rfl ?_
      refine mw_getr (n := 45) (a := 5) (k := 2) cl1 (mkl hg (by decide) (by rfl)) (by decide) rfl rfl fl_X8_166 dX8_which_42 rfl ?_
      refine mw_iload (n := 47) (q := 4) dX8_which_45 rfl rfl ?_
      refine mw_iald (n := 48) (a := 7) (N := 310) (mkl hg (by decide) (by rfl)) dX8_which_47 rfl ?_
      refine mw_letI (fun u3 => ?_)
      refine mw_istore (n := 50) dX8_which_48 rfl (by decide) rfl ?_
      refine mw_iload (n := 52) (q := 0) dX8_which_50 rfl rfl ?_
      refine mw_aload_n (n := 53) (q := 1) dX8_which_52 rfl rfl rfl ?_
      refine mw_geti (n := 56) (a := 0) (k := 9) cl8 (mkl hg (by decide) (by rfl)) (by decide) rfl rfl fl_X8_232 dX8_which_53 rfl ?_
      refine mw_iand (n := 57) dX8_which_56 rfl ?_
      refine mw_aload_n (n := 58) (q := 1) dX8_which_57 rfl rfl rfl ?_
      refine mw_geti (n := 61) (a := 0) (k := 9) cl8 (mkl hg (by decide) (by rfl)) (by decide) rfl rfl fl_X8_232 dX8_which_58 rfl ?_
      refine mw_icmp_ne (n := 64) (t := 90) dX8_which_61 rfl (by decide) Iff.rfl (fun c4 => ?_) (fun c4 => ?_)
      · refine mw_sub [1, 2, 3, 4, 5] rfl ?_
        exact b_X8_which_90 hg N v1 v2 v3 v4 h self20 hself20
      · refine mw_iload (n := 66) (q := 0) dX8_which_64 rfl rfl ?_
        refine mw_aload_n (n := 67) (q := 1) dX8_which_66 rfl rfl rfl ?_
        refine mw_geti (n := 70) (a := 0) (k := 10) cl8 (mkl hg (by decide) (by rfl)) (by decide) rfl rfl fl_X8_238 dX8_which_67 rfl ?_
        refine mw_iand (n := 71) dX8_which_70 rfl ?_
        refine mw_if_ne (n := 74) (t := 90) dX8_which_71 rfl (by decide) Iff.rfl (fun c5 => ?_) (fun c5 => ?_)
        · refine mw_sub [1, 2, 3, 4, 5] rfl ?_
          exact b_X8_which_90 hg N v1 v2 v3 v4 h self20 hself20
        · refine mw_iinc (n := 77) (q := 3) (v := (v2 + (1 : Int32))) dX8_which_74 rfl rfl rfl (by decide) rfl ?_
          refine mw_iload_n (n := 78) (q := 4) dX8_which_77 rfl rfl rfl ?_
          refine mw_bipush (n := 80) (v := -9) dX8_which_78 rfl (by decide) ?_
          refine mw_cutJ (pc' := 89) (lv' := [(2, .int (v2 + (1 : Int32))), (5, .int u3), (0, .ref (mad g 0)), (1, .int v1), (3, .int v3), (4, .int v4)]) (st' := [.int (if ¬ v3 = (-9 : Int32) then v3 else v4)]) (fun J => ?_) ?_
          · refine mw_icmp_ne_m (n := 83) (t := 88) dX8_which_80 rfl (by decide) (fun c6 => ?_) (fun c6 => ?_)
            · refine mw_iload_n (n := 89) (q := 4) dX8_which_88 rfl rfl rfl ?_
              exact mw_topeq (if_pos c6).symm J
            · refine mw_iload (n := 85) (q := 5) dX8_which_83 rfl rfl ?_
              refine mw_goto (n := 89) dX8_which_85 (by decide) ?_
              exact mw_topeq (if_neg c6).symm J
          refine mw_letI (fun u7 => ?_)
          refine mw_istore_n (n := 90) dX8_which_89 rfl rfl (by decide) rfl ?_
          refine mw_sub [3, 4, 1, 0, 5] rfl ?_
          exact b_X8_which_90 hg N v1 (v2 + (1 : Int32)) u7 v4 h self20 hself20
noncomputable def x_X8_which_12 (N : Nat) (v1 : Int32) (h : mH) : Option (Int32) :=
  x_X8_which_20 N v1 h N (0 : Int32) (-9 : Int32) (0 : Int32)
set_option maxRecDepth 20000 in
set_option maxHeartbeats 4000000 in
theorem b_X8_which_12 {g : mG} {l : Launch} (hg : mOK g) (N : Nat) (v1 : Int32) (h : mH) : mw g l 0 mX8_which (fun r : Int32 => (some (Value.int r), h)) 12 [(0, .ref (mad g 0)), (1, .int v1)] [] h (x_X8_which_12 N v1 h) := by
  unfold x_X8_which_12
  refine mw_iconst (n := 13) (v := 0) dX8_which_12 rfl (by decide) ?_
  refine mw_istore_n (n := 14) dX8_which_13 rfl rfl (by decide) rfl ?_
  refine mw_bipush (n := 16) (v := -9) dX8_which_14 rfl (by decide) ?_
  refine mw_istore_n (n := 17) dX8_which_16 rfl rfl (by decide) rfl ?_
  refine mw_iconst (n := 18) (v := 0) dX8_which_17 rfl (by decide) ?_
  refine mw_istore (n := 20) dX8_which_18 rfl (by decide) rfl ?_
  refine mw_sub [3, 4, 2, 1, 0] rfl ?_
  exact b_X8_which_20 hg N v1 h N (0 : Int32) (-9 : Int32) (0 : Int32)
noncomputable def x_X8_which (N : Nat) (p0 : Int32) (h : mH) : Option (Int32) :=
  if p0 = 0 then
    x_X8_which_12 N p0 h
  else
    if p0 = (1 : Int32) then
      x_X8_which_12 N p0 h
    else
      some (-2 : Int32)
set_option maxRecDepth 20000 in
set_option maxHeartbeats 4000000 in
theorem t_X8_which {g : mG} {l : Launch} (hg : mOK g) (N : Nat) (p0 : Int32) (h : mH) : mf g l 0 mX8_which (fun r : Int32 => (some (Value.int r), h)) [.ref (mad g 0), .int p0] h (x_X8_which N p0 h) := by
  refine mf_of (by decide) (Nat.le_of_ble_eq_true rfl) ?_
  show mw g l 0 mX8_which (fun r : Int32 => (some (Value.int r), h)) 0 [(0, .ref (mad g 0)), (1, .int p0)] [] h _
  unfold x_X8_which
  refine mw_iload_n (n := 1) (q := 1) dX8_which_0 rfl rfl rfl ?_
  refine mw_if_eq (n := 4) (t := 12) dX8_which_1 rfl (by decide) Iff.rfl (fun c1 => ?_) (fun c1 => ?_)
  · exact b_X8_which_12 hg N p0 h
  · refine mw_iload_n (n := 5) (q := 1) dX8_which_4 rfl rfl rfl ?_
    refine mw_iconst (n := 6) (v := 1) dX8_which_5 rfl (by decide) ?_
    refine mw_icmp_eq (n := 9) (t := 12) dX8_which_6 rfl (by decide) Iff.rfl (fun c2 => ?_) (fun c2 => ?_)
    · exact b_X8_which_12 hg N p0 h
    · refine mw_bipush (n := 11) (v := -2) dX8_which_9 rfl (by decide) ?_
      exact mw_iret dX8_which_11 rfl rfl
noncomputable def x_X8_share (N : Nat) (p0 : Int32) (p1 : Int32) (h : mH) : Option (Int32 × mH) :=
  (x_X6_hasCell 2 p0 h).bind fun q1 =>
  if ¬ q1 = 0 then
    (x_X6_pinOf 2 p0 h).bind fun q3 =>
    if ¬ q3 = 0 then
      (x_X5_weigh N 1 h).bind fun q5 =>
      (x_X5_fewerInAllOrders N p0 q5).bind fun q6 =>
      (x_X5_orders N (mgi q5 70 3)).bind fun q7 =>
      (x_X8_inLeastTerms N q6 q7 p1).bind fun q8 =>
      some (q8, q5)
    else
      some ((-3 : Int32), h)
  else
    some ((-1 : Int32), h)
set_option maxRecDepth 20000 in
set_option maxHeartbeats 4000000 in
theorem t_X8_share {g : mG} {l : Launch} (hg : mOK g) (N : Nat) (p0 : Int32) (p1 : Int32) (h : mH) : mf g l 4 mX8_share (fun r : Int32 × mH => (some (Value.int r.1), r.2)) [.ref (mad g 0), .int p0, .int p1] h (x_X8_share N p0 p1 h) := by
  refine mf_of (by decide) (Nat.le_of_ble_eq_true rfl) ?_
  show mw g l 4 mX8_share (fun r : Int32 × mH => (some (Value.int r.1), r.2)) 0 [(0, .ref (mad g 0)), (1, .int p0), (2, .int p1)] [] h _
  unfold x_X8_share
  refine mw_aload_n (n := 1) (q := 0) dX8_share_0 rfl rfl rfl ?_
  refine mw_getr (n := 4) (a := 0) (k := 0) cl8 (mkl hg (by decide) (by rfl)) (by decide) rfl rfl fl_X8_10 dX8_share_1 rfl ?_
  refine mw_getr (n := 7) (a := 1) (k := 0) cl2 (mkl hg (by decide) (by rfl)) (by decide) rfl rfl fl_X8_80 dX8_share_4 rfl ?_
  refine mw_iload_n (n := 8) (q := 1) dX8_share_7 rfl rfl rfl ?_
  refine mw_callV (n := 11) (a := 2) (As := [.int p0]) cl6 (mkl hg (by decide) (by rfl)) (t_X6_hasCell hg 2 p0 (mkl hg (by decide) (by rfl)) h) (by decide) ok_X6_hasCell rfl rfl lk_X8_112 im_X6_hasCell se_X6_hasCell dX8_share_8 rfl rfl (Nat.le_of_ble_eq_true rfl) (fun q1 _ => ?_)
  show mw g l _ _ _ 11 _ [.int q1] h _
  refine mw_if_ne (n := 14) (t := 16) dX8_share_11 rfl (by decide) Iff.rfl (fun c2 => ?_) (fun c2 => ?_)
  · refine mw_aload_n (n := 17) (q := 0) dX8_share_16 rfl rfl rfl ?_
    refine mw_getr (n := 20) (a := 0) (k := 0) cl8 (mkl hg (by decide) (by rfl)) (by decide) rfl rfl fl_X8_10 dX8_share_17 rfl ?_
    refine mw_getr (n := 23) (a := 1) (k := 0) cl2 (mkl hg (by decide) (by rfl)) (by decide) rfl rfl fl_X8_80 dX8_share_20 rfl ?_
    refine mw_iload_n (n := 24) (q := 1) dX8_share_23 rfl rfl rfl ?_
    refine mw_callV (n := 27) (a := 2) (As := [.int p0]) cl6 (mkl hg (by decide) (by rfl)) (t_X6_pinOf hg 2 p0 (mkl hg (by decide) (by rfl)) h) (by decide) ok_X6_pinOf rfl rfl lk_X8_115 im_X6_pinOf se_X6_pinOf dX8_share_24 rfl rfl (Nat.le_of_ble_eq_true rfl) (fun q3 _ => ?_)
    show mw g l _ _ _ 27 _ [.int q3] h _
    refine mw_if_ne (n := 30) (t := 33) dX8_share_27 rfl (by decide) Iff.rfl (fun c4 => ?_) (fun c4 => ?_)
    · refine mw_aload_n (n := 34) (q := 0) dX8_share_33 rfl rfl rfl ?_
      refine mw_getr (n := 37) (a := 0) (k := 6) cl8 (mkl hg (by decide) (by rfl)) (by decide) rfl rfl fl_X8_50 dX8_share_34 rfl ?_
      refine mw_aload_n (n := 38) (q := 0) dX8_share_37 rfl rfl rfl ?_
      refine mw_getr (n := 41) (a := 0) (k := 0) cl8 (mkl hg (by decide) (by rfl)) (by decide) rfl rfl fl_X8_10 dX8_share_38 rfl ?_
      refine mw_callV (n := 44) (a := 70) (As := [.ref (mad g 1)]) cl5 (mkl hg (by decide) (by rfl)) (t_X5_weigh hg N 1 (mkl hg (by decide) (by rfl)) h) (by decide) ok_X5_weigh rfl rfl lk_X8_241 im_X5_weigh se_X5_weigh dX8_share_41 rfl rfl (Nat.le_of_ble_eq_true rfl) (fun q5 _ => ?_)
      show mw g l _ _ _ 44 _ [] q5 _
      refine mw_aload_n (n := 45) (q := 0) dX8_share_44 rfl rfl rfl ?_
      refine mw_getr (n := 48) (a := 0) (k := 6) cl8 (mkl hg (by decide) (by rfl)) (by decide) rfl rfl fl_X8_50 dX8_share_45 rfl ?_
      refine mw_iload_n (n := 49) (q := 1) dX8_share_48 rfl rfl rfl ?_
      refine mw_callV (n := 52) (a := 70) (As := [.int p0]) cl5 (mkl hg (by decide) (by rfl)) (t_X5_fewerInAllOrders hg N p0 q5) (by decide) ok_X5_fewerInAllOrders rfl rfl lk_X8_244 im_X5_fewerInAllOrders se_X5_fewerInAllOrders dX8_share_49 rfl rfl (Nat.le_of_ble_eq_true rfl) (fun q6 _ => ?_)
      show mw g l _ _ _ 52 _ [.int q6] q5 _
      refine mw_aload_n (n := 53) (q := 0) dX8_share_52 rfl rfl rfl ?_
      refine mw_getr (n := 56) (a := 0) (k := 6) cl8 (mkl hg (by decide) (by rfl)) (by decide) rfl rfl fl_X8_50 dX8_share_53 rfl ?_
      refine mw_aload_n (n := 57) (q := 0) dX8_share_56 rfl rfl rfl ?_
      refine mw_getr (n := 60) (a := 0) (k := 6) cl8 (mkl hg (by decide) (by rfl)) (by decide) rfl rfl fl_X8_50 dX8_share_57 rfl ?_
      refine mw_geti (n := 63) (a := 70) (k := 3) cl5 (mkl hg (by decide) (by rfl)) (by decide) rfl rfl fl_X8_247 dX8_share_60 rfl ?_
      refine mw_callV (n := 66) (a := 70) (As := [.int (mgi q5 70 3)]) cl5 (mkl hg (by decide) (by rfl)) (t_X5_orders hg N (mgi q5 70 3) q5) (by decide) ok_X5_orders rfl rfl lk_X8_250 im_X5_orders se_X5_orders dX8_share_63 rfl rfl (Nat.le_of_ble_eq_true rfl) (fun q7 _ => ?_)
      show mw g l _ _ _ 66 _ [.int q7, .int q6] q5 _
      refine mw_iload_n (n := 67) (q := 2) dX8_share_66 rfl rfl rfl ?_
      refine mw_callS (n := 70) (As := [.int q6, .int q7, .int p1]) (t_X8_inLeastTerms hg N q6 q7 p1 q5) (by decide) ok_X8_inLeastTerms rfl lk_X8_148 sm_X8_inLeastTerms dX8_share_67 rfl rfl (Nat.le_of_ble_eq_true rfl) (fun q8 _ => ?_)
      show mw g l _ _ _ 70 _ [.int q8] q5 _
      exact mw_iret dX8_share_70 rfl rfl
    · refine mw_bipush (n := 32) (v := -3) dX8_share_30 rfl (by decide) ?_
      exact mw_iret dX8_share_32 rfl rfl
  · refine mw_iconst (n := 15) (v := -1) dX8_share_14 rfl (by decide) ?_
    exact mw_iret dX8_share_15 rfl rfl
noncomputable def x_X8_loose (N : Nat) (p0 : Int32) (p1 : Int32) (h : mH) : Option (Int32 × mH) :=
  if p0 < 0 then
    some ((-2 : Int32), h)
  else
    if p0 ≤ (10 : Int32) then
      (x_X5_weigh N 1 h).bind fun q3 =>
      (x_X5_chancesOfOne N p0 q3).bind fun q4 =>
      (x_X8_power N (10 : Int32) (mgi q3 70 3)).bind fun q5 =>
      (x_X8_inLeastTerms N q4 q5 p1).bind fun q6 =>
      some (q6, q3)
    else
      some ((-2 : Int32), h)
set_option maxRecDepth 20000 in
set_option maxHeartbeats 4000000 in
theorem t_X8_loose {g : mG} {l : Launch} (hg : mOK g) (N : Nat) (p0 : Int32) (p1 : Int32) (h : mH) : mf g l 4 mX8_loose (fun r : Int32 × mH => (some (Value.int r.1), r.2)) [.ref (mad g 0), .int p0, .int p1] h (x_X8_loose N p0 p1 h) := by
  refine mf_of (by decide) (Nat.le_of_ble_eq_true rfl) ?_
  show mw g l 4 mX8_loose (fun r : Int32 × mH => (some (Value.int r.1), r.2)) 0 [(0, .ref (mad g 0)), (1, .int p0), (2, .int p1)] [] h _
  unfold x_X8_loose
  refine mw_iload_n (n := 1) (q := 1) dX8_loose_0 rfl rfl rfl ?_
  refine mw_if_lt (n := 4) (t := 10) dX8_loose_1 rfl (by decide) Iff.rfl (fun c1 => ?_) (fun c1 => ?_)
  · refine mw_bipush (n := 12) (v := -2) dX8_loose_10 rfl (by decide) ?_
    exact mw_iret dX8_loose_12 rfl rfl
  · refine mw_iload_n (n := 5) (q := 1) dX8_loose_4 rfl rfl rfl ?_
    refine mw_bipush (n := 7) (v := 10) dX8_loose_5 rfl (by decide) ?_
    refine mw_icmp_le (n := 10) (t := 13) dX8_loose_7 rfl (by decide) Iff.rfl (fun c2 => ?_) (fun c2 => ?_)
    · refine mw_aload_n (n := 14) (q := 0) dX8_loose_13 rfl rfl rfl ?_
      refine mw_getr (n := 17) (a := 0) (k := 6) cl8 (mkl hg (by decide) (by rfl)) (by decide) rfl rfl fl_X8_50 dX8_loose_14 rfl ?_
      refine mw_aload_n (n := 18) (q := 0) dX8_loose_17 rfl rfl rfl ?_
      refine mw_getr (n := 21) (a := 0) (k := 0) cl8 (mkl hg (by decide) (by rfl)) (by decide) rfl rfl fl_X8_10 dX8_loose_18 rfl ?_
      refine mw_callV (n := 24) (a := 70) (As := [.ref (mad g 1)]) cl5 (mkl hg (by decide) (by rfl)) (t_X5_weigh hg N 1 (mkl hg (by decide) (by rfl)) h) (by decide) ok_X5_weigh rfl rfl lk_X8_241 im_X5_weigh se_X5_weigh dX8_loose_21 rfl rfl (Nat.le_of_ble_eq_true rfl) (fun q3 _ => ?_)
      show mw g l _ _ _ 24 _ [] q3 _
      refine mw_aload_n (n := 25) (q := 0) dX8_loose_24 rfl rfl rfl ?_
      refine mw_getr (n := 28) (a := 0) (k := 6) cl8 (mkl hg (by decide) (by rfl)) (by decide) rfl rfl fl_X8_50 dX8_loose_25 rfl ?_
      refine mw_iload_n (n := 29) (q := 1) dX8_loose_28 rfl rfl rfl ?_
      refine mw_callV (n := 32) (a := 70) (As := [.int p0]) cl5 (mkl hg (by decide) (by rfl)) (t_X5_chancesOfOne hg N p0 q3) (by decide) ok_X5_chancesOfOne rfl rfl lk_X8_253 im_X5_chancesOfOne se_X5_chancesOfOne dX8_loose_29 rfl rfl (Nat.le_of_ble_eq_true rfl) (fun q4 _ => ?_)
      show mw g l _ _ _ 32 _ [.int q4] q3 _
      refine mw_bipush (n := 34) (v := 10) dX8_loose_32 rfl (by decide) ?_
      refine mw_aload_n (n := 35) (q := 0) dX8_loose_34 rfl rfl rfl ?_
      refine mw_getr (n := 38) (a := 0) (k := 6) cl8 (mkl hg (by decide) (by rfl)) (by decide) rfl rfl fl_X8_50 dX8_loose_35 rfl ?_
      refine mw_geti (n := 41) (a := 70) (k := 3) cl5 (mkl hg (by decide) (by rfl)) (by decide) rfl rfl fl_X8_247 dX8_loose_38 rfl ?_
      refine mw_callS (n := 44) (As := [.int (10 : Int32), .int (mgi q3 70 3)]) (t_X8_power hg N (10 : Int32) (mgi q3 70 3) q3) (by decide) ok_X8_power rfl lk_X8_256 sm_X8_power dX8_loose_41 rfl rfl (Nat.le_of_ble_eq_true rfl) (fun q5 _ => ?_)
      show mw g l _ _ _ 44 _ [.int q5, .int q4] q3 _
      refine mw_iload_n (n := 45) (q := 2) dX8_loose_44 rfl rfl rfl ?_
      refine mw_callS (n := 48) (As := [.int q4, .int q5, .int p1]) (t_X8_inLeastTerms hg N q4 q5 p1 q3) (by decide) ok_X8_inLeastTerms rfl lk_X8_148 sm_X8_inLeastTerms dX8_loose_45 rfl rfl (Nat.le_of_ble_eq_true rfl) (fun q6 _ => ?_)
      show mw g l _ _ _ 48 _ [.int q6] q3 _
      exact mw_iret dX8_loose_48 rfl rfl
    · refine mw_bipush (n := 12) (v := -2) dX8_loose_10 rfl (by decide) ?_
      exact mw_iret dX8_loose_12 rfl rfl
noncomputable def x_X8_seed (p0 : Int64) (h : mH) : Option (Int64 × mH) :=
  mlet (mgl h 0 12) fun u1 =>
  mlet (msl h 0 12 p0) fun h2 =>
  some (u1, h2)
set_option maxRecDepth 20000 in
set_option maxHeartbeats 4000000 in
theorem t_X8_seed {g : mG} {l : Launch} (hg : mOK g) (p0 : Int64) (h : mH) : mf g l 0 mX8_seed (fun r : Int64 × mH => (some (Value.long r.1), r.2)) [.ref (mad g 0), .long p0] h (x_X8_seed p0 h) := by
  refine mf_of (by decide) (Nat.le_of_ble_eq_true rfl) ?_
  show mw g l 0 mX8_seed (fun r : Int64 × mH => (some (Value.long r.1), r.2)) 0 [(0, .ref (mad g 0)), (1, .long p0)] [] h _
  unfold x_X8_seed
  refine mw_aload_n (n := 1) (q := 0) dX8_seed_0 rfl rfl rfl ?_
  refine mw_getl (n := 4) (a := 0) (k := 12) cl8 (mkl hg (by decide) (by rfl)) (by decide) rfl rfl fl_X8_259 dX8_seed_1 rfl ?_
  refine mw_letJ (fun u1 => ?_)
  refine mw_lstore_n (n := 5) dX8_seed_4 rfl rfl (by decide) rfl ?_
  refine mw_aload_n (n := 6) (q := 1) dX8_seed_5 rfl rfl rfl ?_
  refine mw_lload_n (n := 7) (q := 2) dX8_seed_6 rfl rfl rfl ?_
  refine mw_putl (n := 10) (a := 0) (k := 12) cl8 ct8 (mkl hg (by decide) (by rfl)) (by decide) rfl rfl rfl rfl fl_X8_259 dX8_seed_7 rfl (mw_leth (fun h2 => ?_))
  refine mw_lload_n (n := 11) (q := 0) dX8_seed_10 rfl rfl rfl ?_
  exact mw_lret dX8_seed_11 rfl rfl
noncomputable def x_X8_drawSwitch_83 (v1 : Int32) (v4 : Int32) (v5 : Int32) (v6 : Int32) (v7 : Int32) (s0 : Int32) (h : mH) : Option (Int32) :=
  if s0 = 0 then
    some v1
  else
    (x_X6_switched 2 v1 v4 v5 v6 v7 h).bind fun q2 =>
    some q2
set_option maxRecDepth 20000 in
set_option maxHeartbeats 4000000 in
theorem b_X8_drawSwitch_83 {g : mG} {l : Launch} (hg : mOK g) (v1 : Int32) (v4 : Int32) (v5 : Int32) (v6 : Int32) (v7 : Int32) (s0 : Int32) (h : mH) : mw g l 3 mX8_drawSwitch (fun r : Int32 => (some (Value.int r), h)) 83 [(1, .int v1), (3, .ref (mad g 2)), (4, .int v4), (5, .int v5), (6, .int v6), (7, .int v7)] [.int s0] h (x_X8_drawSwitch_83 v1 v4 v5 v6 v7 s0 h) := by
  unfold x_X8_drawSwitch_83
  refine mw_istore (n := 85) dX8_drawSwitch_83 rfl (by decide) rfl ?_
  refine mw_iload (n := 87) (q := 0) dX8_drawSwitch_85 rfl rfl ?_
  refine mw_if_eq (n := 90) (t := 106) dX8_drawSwitch_87 rfl (by decide) Iff.rfl (fun c1 => ?_) (fun c1 => ?_)
  · refine mw_iload_n (n := 107) (q := 1) dX8_drawSwitch_106 rfl rfl rfl ?_
    exact mw_iret dX8_drawSwitch_107 rfl rfl
  · refine mw_aload_n (n := 91) (q := 2) dX8_drawSwitch_90 rfl rfl rfl ?_
    refine mw_iload_n (n := 92) (q := 1) dX8_drawSwitch_91 rfl rfl rfl ?_
    refine mw_iload (n := 94) (q := 3) dX8_drawSwitch_92 rfl rfl ?_
    refine mw_iload (n := 96) (q := 4) dX8_drawSwitch_94 rfl rfl ?_
    refine mw_iload (n := 98) (q := 5) dX8_drawSwitch_96 rfl rfl ?_
    refine mw_iload (n := 100) (q := 6) dX8_drawSwitch_98 rfl rfl ?_
    refine mw_callV (n := 103) (a := 2) (As := [.int v1, .int v4, .int v5, .int v6, .int v7]) cl6 (mkl hg (by decide) (by rfl)) (t_X6_switched hg 2 v1 v4 v5 v6 v7 (mkl hg (by decide) (by rfl)) h) (by decide) ok_X6_switched rfl rfl lk_X8_277 im_X6_switched se_X6_switched dX8_drawSwitch_100 rfl rfl (Nat.le_of_ble_eq_true rfl) (fun q2 _ => ?_)
    show mw g l _ _ _ 103 _ [.int q2] h _
    refine mw_goto (n := 107) dX8_drawSwitch_103 (by decide) ?_
    exact mw_iret dX8_drawSwitch_107 rfl rfl
noncomputable def x_X8_drawSwitch_82 (v1 : Int32) (v4 : Int32) (v5 : Int32) (v6 : Int32) (v7 : Int32) (h : mH) : Option (Int32) :=
  x_X8_drawSwitch_83 v1 v4 v5 v6 v7 (0 : Int32) h
set_option maxRecDepth 20000 in
set_option maxHeartbeats 4000000 in
theorem b_X8_drawSwitch_82 {g : mG} {l : Launch} (hg : mOK g) (v1 : Int32) (v4 : Int32) (v5 : Int32) (v6 : Int32) (v7 : Int32) (h : mH) : mw g l 3 mX8_drawSwitch (fun r : Int32 => (some (Value.int r), h)) 82 [(1, .int v1), (3, .ref (mad g 2)), (4, .int v4), (5, .int v5), (6, .int v6), (7, .int v7)] [] h (x_X8_drawSwitch_82 v1 v4 v5 v6 v7 h) := by
  unfold x_X8_drawSwitch_82
  refine mw_iconst (n := 83) (v := 0) dX8_drawSwitch_82 rfl (by decide) ?_
  exact b_X8_drawSwitch_83 hg v1 v4 v5 v6 v7 (0 : Int32) h
noncomputable def x_X8_drawSwitch (p0 : Int32) (p1 : Int32) (h : mH) : Option (Int32) :=
  (x_X8_remainder p1 (mgi h 2 0)).bind fun q1 =>
  (x_X8_remainder (p1 / (4 : Int32)) (mgi h 2 0)).bind fun q2 =>
  (x_X8_remainder (p1 / (16 : Int32)) (mgi h 2 1)).bind fun q3 =>
  (x_X8_remainder (p1 / (128 : Int32)) (mgi h 2 1)).bind fun q4 =>
  if p0 = (-1 : Int32) then
    x_X8_drawSwitch_82 p0 q1 q2 q3 q4 h
  else
    (x_X6_isSwitch 2 p0 q1 q2 q3 q4 h).bind fun q6 =>
    mlet (if q6 = 0 then (0 : Int32) else (1 : Int32)) fun u8 =>
    if u8 = 0 then
      some p0
    else
      (x_X6_switched 2 p0 q1 q2 q3 q4 h).bind fun q10 =>
      some q10
set_option maxRecDepth 20000 in
set_option maxHeartbeats 4000000 in
theorem t_X8_drawSwitch {g : mG} {l : Launch} (hg : mOK g) (p0 : Int32) (p1 : Int32) (h : mH) : mf g l 3 mX8_drawSwitch (fun r : Int32 => (some (Value.int r), h)) [.ref (mad g 0), .int p0, .int p1] h (x_X8_drawSwitch p0 p1 h) := by
  refine mf_of (by decide) (Nat.le_of_ble_eq_true rfl) ?_
  show mw g l 3 mX8_drawSwitch (fun r : Int32 => (some (Value.int r), h)) 0 [(0, .ref (mad g 0)), (1, .int p0), (2, .int p1)] [] h _
  unfold x_X8_drawSwitch
  refine mw_aload_n (n := 1) (q := 0) dX8_drawSwitch_0 rfl rfl rfl ?_
  refine mw_getr (n := 4) (a := 0) (k := 0) cl8 (mkl hg (by decide) (by rfl)) (by decide) rfl rfl fl_X8_10 dX8_drawSwitch_1 rfl ?_
  refine mw_getr (n := 7) (a := 1) (k := 0) cl2 (mkl hg (by decide) (by rfl)) (by decide) rfl rfl fl_X8_80 dX8_drawSwitch_4 rfl ?_
  refine mw_astore_n (n := 8) dX8_drawSwitch_7 rfl rfl (by decide) rfl ?_
  refine mw_iload_n (n := 9) (q := 3) dX8_drawSwitch_8 rfl rfl rfl ?_
  refine mw_aload_n (n := 10) (q := 0) dX8_drawSwitch_9 rfl rfl rfl ?_
  refine mw_geti (n := 13) (a := 2) (k := 0) cl6 (mkl hg (by decide) (by rfl)) (by decide) rfl rfl fl_X8_210 dX8_drawSwitch_10 rfl ?_
  refine mw_callS (n := 16) (As := [.int p1, .int (mgi h 2 0)]) (t_X8_remainder hg p1 (mgi h 2 0) h) (by decide) ok_X8_remainder rfl lk_X8_270 sm_X8_remainder dX8_drawSwitch_13 rfl rfl (Nat.le_of_ble_eq_true rfl) (fun q1 _ => ?_)
  show mw g l _ _ _ 16 _ [.int q1] h _
  refine mw_istore (n := 18) dX8_drawSwitch_16 rfl (by decide) rfl ?_
  refine mw_iload_n (n := 19) (q := 4) dX8_drawSwitch_18 rfl rfl rfl ?_
  refine mw_iconst (n := 20) (v := 4) dX8_drawSwitch_19 rfl (by decide) ?_
  refine mw_idiv (n := 21) dX8_drawSwitch_20 rfl (by decide) ?_
  refine mw_aload_n (n := 22) (q := 1) dX8_drawSwitch_21 rfl rfl rfl ?_
  refine mw_geti (n := 25) (a := 2) (k := 0) cl6 (mkl hg (by decide) (by rfl)) (by decide) rfl rfl fl_X8_210 dX8_drawSwitch_22 rfl ?_
  refine mw_callS (n := 28) (As := [.int (p1 / (4 : Int32)), .int (mgi h 2 0)]) (t_X8_remainder hg (p1 / (4 : Int32)) (mgi h 2 0) h) (by decide) ok_X8_remainder rfl lk_X8_270 sm_X8_remainder dX8_drawSwitch_25 rfl rfl (Nat.le_of_ble_eq_true rfl) (fun q2 _ => ?_)
  show mw g l _ _ _ 28 _ [.int q2] h _
  refine mw_istore (n := 30) dX8_drawSwitch_28 rfl (by decide) rfl ?_
  refine mw_iload_n (n := 31) (q := 5) dX8_drawSwitch_30 rfl rfl rfl ?_
  refine mw_bipush (n := 33) (v := 16) dX8_drawSwitch_31 rfl (by decide) ?_
  refine mw_idiv (n := 34) dX8_drawSwitch_33 rfl (by decide) ?_
  refine mw_aload_n (n := 35) (q := 2) dX8_drawSwitch_34 rfl rfl rfl ?_
  refine mw_geti (n := 38) (a := 2) (k := 1) cl6 (mkl hg (by decide) (by rfl)) (by decide) rfl rfl fl_X8_213 dX8_drawSwitch_35 rfl ?_
  refine mw_callS (n := 41) (As := [.int (p1 / (16 : Int32)), .int (mgi h 2 1)]) (t_X8_remainder hg (p1 / (16 : Int32)) (mgi h 2 1) h) (by decide) ok_X8_remainder rfl lk_X8_270 sm_X8_remainder dX8_drawSwitch_38 rfl rfl (Nat.le_of_ble_eq_true rfl) (fun q3 _ => ?_)
  show mw g l _ _ _ 41 _ [.int q3] h _
  refine mw_istore (n := 43) dX8_drawSwitch_41 rfl (by decide) rfl ?_
  refine mw_iload_n (n := 44) (q := 6) dX8_drawSwitch_43 rfl rfl rfl ?_
  refine mw_sipush (n := 47) (v := 128) dX8_drawSwitch_44 rfl (by decide) ?_
  refine mw_idiv (n := 48) dX8_drawSwitch_47 rfl (by decide) ?_
  refine mw_aload_n (n := 49) (q := 3) dX8_drawSwitch_48 rfl rfl rfl ?_
  refine mw_geti (n := 52) (a := 2) (k := 1) cl6 (mkl hg (by decide) (by rfl)) (by decide) rfl rfl fl_X8_213 dX8_drawSwitch_49 rfl ?_
  refine mw_callS (n := 55) (As := [.int (p1 / (128 : Int32)), .int (mgi h 2 1)]) (t_X8_remainder hg (p1 / (128 : Int32)) (mgi h 2 1) h) (by decide) ok_X8_remainder rfl lk_X8_270 sm_X8_remainder dX8_drawSwitch_52 rfl rfl (Nat.le_of_ble_eq_true rfl) (fun q4 _ => ?_)
  show mw g l _ _ _ 55 _ [.int q4] h _
  refine mw_istore (n := 57) dX8_drawSwitch_55 rfl (by decide) rfl ?_
  refine mw_iload_n (n := 58) (q := 6) dX8_drawSwitch_57 rfl rfl rfl ?_
  refine mw_iconst (n := 59) (v := -1) dX8_drawSwitch_58 rfl (by decide) ?_
  refine mw_icmp_eq (n := 62) (t := 82) dX8_drawSwitch_59 rfl (by decide) Iff.rfl (fun c5 => ?_) (fun c5 => ?_)
  · refine mw_sub [6, 4, 3, 2, 1, 0] rfl ?_
    exact b_X8_drawSwitch_82 hg p0 q1 q2 q3 q4 h
  · refine mw_aload_n (n := 63) (q := 4) dX8_drawSwitch_62 rfl rfl rfl ?_
    refine mw_iload_n (n := 64) (q := 6) dX8_drawSwitch_63 rfl rfl rfl ?_
    refine mw_iload (n := 66) (q := 3) dX8_drawSwitch_64 rfl rfl ?_
    refine mw_iload (n := 68) (q := 2) dX8_drawSwitch_66 rfl rfl ?_
    refine mw_iload (n := 70) (q := 1) dX8_drawSwitch_68 rfl rfl ?_
    refine mw_iload (n := 72) (q := 0) dX8_drawSwitch_70 rfl rfl ?_
    refine mw_callV (n := 75) (a := 2) (As := [.int p0, .int q1, .int q2, .int q3, .int q4]) cl6 (mkl hg (by decide) (by rfl)) (t_X6_isSwitch hg 2 p0 q1 q2 q3 q4 (mkl hg (by decide) (by rfl)) h) (by decide) ok_X6_isSwitch rfl rfl lk_X8_273 im_X6_isSwitch se_X6_isSwitch dX8_drawSwitch_72 rfl rfl (Nat.le_of_ble_eq_true rfl) (fun q6 _ => ?_)
    show mw g l _ _ _ 75 _ [.int q6] h _
    refine mw_cutJ (pc' := 83) (lv' := [(7, .int q4), (6, .int q3), (5, .int q2), (4, .int q1), (3, .ref (mad g 2)), (0, .ref (mad g 0)), (1, .int p0), (2, .int p1)]) (st' := [.int (if q6 = 0 then (0 : Int32) else (1 : Int32))]) (fun J => ?_) ?_
    · refine mw_if_eq_m (n := 78) (t := 82) dX8_drawSwitch_75 rfl (by decide) (fun c7 => ?_) (fun c7 => ?_)
      · refine mw_iconst (n := 83) (v := 0) dX8_drawSwitch_82 rfl (by decide) ?_
        exact mw_topeq (if_pos c7).symm J
      · refine mw_iconst (n := 79) (v := 1) dX8_drawSwitch_78 rfl (by decide) ?_
        refine mw_goto (n := 83) dX8_drawSwitch_79 (by decide) ?_
        exact mw_topeq (if_neg c7).symm J
    refine mw_letI (fun u8 => ?_)
    refine mw_istore (n := 85) dX8_drawSwitch_83 rfl (by decide) rfl ?_
    refine mw_iload (n := 87) (q := 0) dX8_drawSwitch_85 rfl rfl ?_
    refine mw_if_eq (n := 90) (t := 106) dX8_drawSwitch_87 rfl (by decide) Iff.rfl (fun c9 => ?_) (fun c9 => ?_)
    · refine mw_iload_n (n := 107) (q := 7) dX8_drawSwitch_106 rfl rfl rfl ?_
      exact mw_iret dX8_drawSwitch_107 rfl rfl
    · refine mw_aload_n (n := 91) (q := 5) dX8_drawSwitch_90 rfl rfl rfl ?_
      refine mw_iload_n (n := 92) (q := 7) dX8_drawSwitch_91 rfl rfl rfl ?_
      refine mw_iload (n := 94) (q := 4) dX8_drawSwitch_92 rfl rfl ?_
      refine mw_iload (n := 96) (q := 3) dX8_drawSwitch_94 rfl rfl ?_
      refine mw_iload (n := 98) (q := 2) dX8_drawSwitch_96 rfl rfl ?_
      refine mw_iload (n := 100) (q := 1) dX8_drawSwitch_98 rfl rfl ?_
      refine mw_callV (n := 103) (a := 2) (As := [.int p0, .int q1, .int q2, .int q3, .int q4]) cl6 (mkl hg (by decide) (by rfl)) (t_X6_switched hg 2 p0 q1 q2 q3 q4 (mkl hg (by decide) (by rfl)) h) (by decide) ok_X6_switched rfl rfl lk_X8_277 im_X6_switched se_X6_switched dX8_drawSwitch_100 rfl rfl (Nat.le_of_ble_eq_true rfl) (fun q10 _ => ?_)
      show mw g l _ _ _ 103 _ [.int q10] h _
      refine mw_goto (n := 107) dX8_drawSwitch_103 (by decide) ?_
      exact mw_iret dX8_drawSwitch_107 rfl rfl
noncomputable def x_X8_drawn_30 (N : Nat) (v1 : Int32) (f : Nat) : Int32 → Int32 → Int32 → mH → Option (Int32 × mH) :=
  Nat.rec (motive := fun _ => Int32 → Int32 → Int32 → mH → Option (Int32 × mH)) (fun _ _ _ _ => none) (fun _ self30 => fun v2 v3 v4 h => 
    if v1 ≤ v4 then
      some (v3, h)
    else
      mlet (msl h 0 12 (((mgl h 0 12) * (6364136223846793005 : Int64)) + (1442695040888963407 : Int64))) fun h2 =>
      (x_X8_drawSwitch v2 (((xlushr (mgl h2 0 12) (33 : Int32))).toInt32) h2).bind fun q3 =>
      (x_X1_numberOf N 5 q3 h2).bind fun q4 =>
      (x_J9_max_7cf53 (0 : Int32) q4).bind fun q5 =>
      mlet (v3 + q5) fun u6 =>
      self30 q3 u6 (v4 + (1 : Int32)) h2) f
theorem x_X8_drawn_30_0 (N : Nat) (v1 : Int32) (v2 : Int32) (v3 : Int32) (v4 : Int32) (h : mH) : x_X8_drawn_30 N v1 0 v2 v3 v4 h = none := rfl
theorem x_X8_drawn_30_s (N : Nat) (v1 : Int32) (f : Nat) (v2 : Int32) (v3 : Int32) (v4 : Int32) (h : mH) : x_X8_drawn_30 N v1 (f + 1) v2 v3 v4 h = (
    if v1 ≤ v4 then
      some (v3, h)
    else
      mlet (msl h 0 12 (((mgl h 0 12) * (6364136223846793005 : Int64)) + (1442695040888963407 : Int64))) fun h2 =>
      (x_X8_drawSwitch v2 (((xlushr (mgl h2 0 12) (33 : Int32))).toInt32) h2).bind fun q3 =>
      (x_X1_numberOf N 5 q3 h2).bind fun q4 =>
      (x_J9_max_7cf53 (0 : Int32) q4).bind fun q5 =>
      mlet (v3 + q5) fun u6 =>
      (x_X8_drawn_30 N v1 f) q3 u6 (v4 + (1 : Int32)) h2) := rfl
set_option maxRecDepth 20000 in
set_option maxHeartbeats 4000000 in
theorem b_X8_drawn_30 {g : mG} {l : Launch} (hg : mOK g) (N : Nat) (v1 : Int32) (f : Nat) : ∀ (v2 : Int32) (v3 : Int32) (v4 : Int32) (h : mH), mw g l 4 mX8_drawn (fun r : Int32 × mH => (some (Value.int r.1), r.2)) 30 [(0, .ref (mad g 0)), (1, .int v1), (2, .int v2), (3, .int v3), (4, .int v4)] [] h (x_X8_drawn_30 N v1 f v2 v3 v4 h) := by
  induction f with
  | zero => intros; exact mw_none
  | succ f hself30 =>
    intro v2 v3 v4 h
    refine mw_eq (x_X8_drawn_30_s N v1 f v2 v3 v4 h) ?_
    generalize x_X8_drawn_30 N v1 f = self30 at hself30 ⊢
    refine mw_iload (n := 32) (q := 4) dX8_drawn_30 rfl rfl ?_
    refine mw_iload_n (n := 33) (q := 1) dX8_drawn_32 rfl rfl rfl ?_
    refine mw_icmp_ge (n := 36) (t := 90) dX8_drawn_33 rfl (by decide) Iff.rfl (fun c1 => ?_) (fun c1 => ?_)
    · refine mw_iload_n (n := 91) (q := 3) dX8_drawn_90 rfl rfl rfl ?_
      exact mw_iret dX8_drawn_91 rfl rfl
    · refine mw_aload_n (n := 37) (q := 0) dX8_drawn_36 rfl rfl rfl ?_
      refine mw_aload_n (n := 38) (q := 0) dX8_drawn_37 rfl rfl rfl ?_
      refine mw_getl (n := 41) (a := 0) (k := 12) cl8 (mkl hg (by decide) (by rfl)) (by decide) rfl rfl fl_X8_259 dX8_drawn_38 rfl ?_
      refine mw_ldc2 (n := 44) dX8_drawn_41 rfl kl_X8_263 ?_
      refine mw_lmul (n := 45) dX8_drawn_44 rfl ?_
      refine mw_ldc2 (n := 48) dX8_drawn_45 rfl kl_X8_265 ?_
      refine mw_ladd (n := 49) dX8_drawn_48 rfl ?_
      refine mw_putl (n := 52) (a := 0) (k := 12) cl8 ct8 (mkl hg (by decide) (by rfl)) (by decide) rfl rfl rfl rfl fl_X8_259 dX8_drawn_49 rfl (mw_leth (fun h2 => ?_))
      refine mw_aload_n (n := 53) (q := 0) dX8_drawn_52 rfl rfl rfl ?_
      refine mw_iload_n (n := 54) (q := 2) dX8_drawn_53 rfl rfl rfl ?_
      refine mw_aload_n (n := 55) (q := 0) dX8_drawn_54 rfl rfl rfl ?_
      refine mw_getl (n := 58) (a := 0) (k := 12) cl8 (mkl hg (by decide) (by rfl)) (by decide) rfl rfl fl_X8_259 dX8_drawn_55 rfl ?_
      refine mw_bipush (n := 60) (v := 33) dX8_drawn_58 rfl (by decide) ?_
      refine mw_lushr (n := 61) dX8_drawn_60 rfl ?_
      refine mw_l2i (n := 62) dX8_drawn_61 rfl ?_
      refine mw_callV (n := 65) (a := 0) (As := [.int v2, .int ((xlushr (mgl h2 0 12) (33 : Int32))).toInt32]) cl8 (mkl hg (by decide) (by rfl)) (t_X8_drawSwitch hg v2 (((xlushr (mgl h2 0 12) (33 : Int32))).toInt32) h2) (by decide) ok_X8_drawSwitch rfl rfl lk_X8_267 im_X8_drawSwitch se_X8_drawSwitch dX8_drawn_62 rfl rfl (Nat.le_of_ble_eq_true rfl) (fun q3 _ => ?_)
      show mw g l _ _ _ 65 _ [.int q3] h2 _
      refine mw_istore_n (n := 66) dX8_drawn_65 rfl rfl (by decide) rfl ?_
      refine mw_iload_n (n := 67) (q := 3) dX8_drawn_66 rfl rfl rfl ?_
      refine mw_iconst (n := 68) (v := 0) dX8_drawn_67 rfl (by decide) ?_
      refine mw_aload_n (n := 69) (q := 1) dX8_drawn_68 rfl rfl rfl ?_
      refine mw_getr (n := 72) (a := 0) (k := 0) cl8 (mkl hg (by decide) (by rfl)) (by decide) rfl rfl fl_X8_10 dX8_drawn_69 rfl ?_
      refine mw_getr (n := 75) (a := 1) (k := 1) cl2 (mkl hg (by decide) (by rfl)) (by decide) rfl rfl fl_X8_95 dX8_drawn_72 rfl ?_
      refine mw_iload_n (n := 76) (q := 0) dX8_drawn_75 rfl rfl rfl ?_
      refine mw_callV (n := 79) (a := 5) (As := [.int q3]) cl1 (mkl hg (by decide) (by rfl)) (t_X1_numberOf hg N 5 q3 (mkl hg (by decide) (by rfl)) h2) (by decide) ok_X1_numberOf rfl rfl lk_X8_160 im_X1_numberOf se_X1_numberOf dX8_drawn_76 rfl rfl (Nat.le_of_ble_eq_true rfl) (fun q4 _ => ?_)
      show mw g l _ _ _ 79 _ [.int q4, .int (0 : Int32), .int v3] h2 _
      refine mw_callS (n := 82) (As := [.int (0 : Int32), .int q4]) (t_J9_max_7cf53 (0 : Int32) q4 h2) (by decide) ok_J9_max_7cf53 rfl lk_X8_155 sm_J9_max_7cf53 dX8_drawn_79 rfl rfl (Nat.le_of_ble_eq_true rfl) (fun q5 _ => ?_)
      show mw g l _ _ _ 82 _ [.int q5, .int v3] h2 _
      refine mw_iadd (n := 83) dX8_drawn_82 rfl ?_
      refine mw_letI (fun u6 => ?_)
      refine mw_istore_n (n := 84) dX8_drawn_83 rfl rfl (by decide) rfl ?_
      refine mw_iinc (n := 87) (q := 4) (v := (v4 + (1 : Int32))) dX8_drawn_84 rfl rfl rfl (by decide) rfl ?_
      refine mw_goto (n := 30) dX8_drawn_87 (by decide) ?_
      refine mw_sub [3, 4, 2, 1, 0] rfl ?_
      exact hself30 q3 u6 (v4 + (1 : Int32)) h2
noncomputable def x_X8_drawn (N : Nat) (p0 : Int32) (h : mH) : Option (Int32 × mH) :=
  if p0 < (1 : Int32) then
    some ((-2 : Int32), h)
  else
    if p0 ≤ (20 : Int32) then
      mlet (mgi h 2 6) fun u3 =>
      x_X8_drawn_30 N p0 N u3 (0 : Int32) (0 : Int32) h
    else
      some ((-2 : Int32), h)
set_option maxRecDepth 20000 in
set_option maxHeartbeats 4000000 in
theorem t_X8_drawn {g : mG} {l : Launch} (hg : mOK g) (N : Nat) (p0 : Int32) (h : mH) : mf g l 4 mX8_drawn (fun r : Int32 × mH => (some (Value.int r.1), r.2)) [.ref (mad g 0), .int p0] h (x_X8_drawn N p0 h) := by
  refine mf_of (by decide) (Nat.le_of_ble_eq_true rfl) ?_
  show mw g l 4 mX8_drawn (fun r : Int32 × mH => (some (Value.int r.1), r.2)) 0 [(0, .ref (mad g 0)), (1, .int p0)] [] h _
  unfold x_X8_drawn
  refine mw_iload_n (n := 1) (q := 1) dX8_drawn_0 rfl rfl rfl ?_
  refine mw_iconst (n := 2) (v := 1) dX8_drawn_1 rfl (by decide) ?_
  refine mw_icmp_lt (n := 5) (t := 11) dX8_drawn_2 rfl (by decide) Iff.rfl (fun c1 => ?_) (fun c1 => ?_)
  · refine mw_bipush (n := 13) (v := -2) dX8_drawn_11 rfl (by decide) ?_
    exact mw_iret dX8_drawn_13 rfl rfl
  · refine mw_iload_n (n := 6) (q := 1) dX8_drawn_5 rfl rfl rfl ?_
    refine mw_bipush (n := 8) (v := 20) dX8_drawn_6 rfl (by decide) ?_
    refine mw_icmp_le (n := 11) (t := 14) dX8_drawn_8 rfl (by decide) Iff.rfl (fun c2 => ?_) (fun c2 => ?_)
    · refine mw_aload_n (n := 15) (q := 0) dX8_drawn_14 rfl rfl rfl ?_
      refine mw_getr (n := 18) (a := 0) (k := 0) cl8 (mkl hg (by decide) (by rfl)) (by decide) rfl rfl fl_X8_10 dX8_drawn_15 rfl ?_
      refine mw_getr (n := 21) (a := 1) (k := 0) cl2 (mkl hg (by decide) (by rfl)) (by decide) rfl rfl fl_X8_80 dX8_drawn_18 rfl ?_
      refine mw_geti (n := 24) (a := 2) (k := 6) cl6 (mkl hg (by decide) (by rfl)) (by decide) rfl rfl fl_X8_91 dX8_drawn_21 rfl ?_
      refine mw_letI (fun u3 => ?_)
      refine mw_istore_n (n := 25) dX8_drawn_24 rfl rfl (by decide) rfl ?_
      refine mw_iconst (n := 26) (v := 0) dX8_drawn_25 rfl (by decide) ?_
      refine mw_istore_n (n := 27) dX8_drawn_26 rfl rfl (by decide) rfl ?_
      refine mw_iconst (n := 28) (v := 0) dX8_drawn_27 rfl (by decide) ?_
      refine mw_istore (n := 30) dX8_drawn_28 rfl (by decide) rfl ?_
      refine mw_sub [3, 4, 2, 1, 0] rfl ?_
      exact b_X8_drawn_30 hg N p0 N u3 (0 : Int32) (0 : Int32) h
    · refine mw_bipush (n := 13) (v := -2) dX8_drawn_11 rfl (by decide) ?_
      exact mw_iret dX8_drawn_13 rfl rfl
noncomputable def x_X8_keep (p0 : Int32) (h : mH) : Option (Int32 × mH) :=
  if p0 < 0 then
    some ((-1 : Int32), h)
  else
    if p0 < (2 : Int32) then
      mck p0 2 <|
      (x_X6_become (76 + 3 * (p0).toNatClampNeg) 2 h).bind fun q4 =>
      mck p0 2 <|
      mlet (msi q4 75 (p0).toNatClampNeg (1 : Int32)) fun h5 =>
      (x_X6_cells 2 h5).bind fun q6 =>
      some (q6, h5)
    else
      some ((-1 : Int32), h)
set_option maxRecDepth 20000 in
set_option maxHeartbeats 4000000 in
theorem t_X8_keep {g : mG} {l : Launch} (hg : mOK g) (p0 : Int32) (h : mH) : mf g l 1 mX8_keep (fun r : Int32 × mH => (some (Value.int r.1), r.2)) [.ref (mad g 0), .int p0] h (x_X8_keep p0 h) := by
  refine mf_of (by decide) (Nat.le_of_ble_eq_true rfl) ?_
  show mw g l 1 mX8_keep (fun r : Int32 × mH => (some (Value.int r.1), r.2)) 0 [(0, .ref (mad g 0)), (1, .int p0)] [] h _
  unfold x_X8_keep
  refine mw_iload_n (n := 1) (q := 1) dX8_keep_0 rfl rfl rfl ?_
  refine mw_if_lt (n := 4) (t := 9) dX8_keep_1 rfl (by decide) Iff.rfl (fun c1 => ?_) (fun c1 => ?_)
  · refine mw_iconst (n := 10) (v := -1) dX8_keep_9 rfl (by decide) ?_
    exact mw_iret dX8_keep_10 rfl rfl
  · refine mw_iload_n (n := 5) (q := 1) dX8_keep_4 rfl rfl rfl ?_
    refine mw_iconst (n := 6) (v := 2) dX8_keep_5 rfl (by decide) ?_
    refine mw_icmp_lt (n := 9) (t := 11) dX8_keep_6 rfl (by decide) Iff.rfl (fun c2 => ?_) (fun c2 => ?_)
    · refine mw_aload_n (n := 12) (q := 0) dX8_keep_11 rfl rfl rfl ?_
      refine mw_getr (n := 15) (a := 0) (k := 7) cl8 (mkl hg (by decide) (by rfl)) (by decide) rfl rfl fl_X8_56 dX8_keep_12 rfl ?_
      refine mw_iload_n (n := 16) (q := 1) dX8_keep_15 rfl rfl rfl ?_
      refine mw_aald61 (n := 17) (a := 74) (mkl hg (by decide) (by rfl)) dX8_keep_16 rfl (fun hi3 => ?_)
      refine mw_aload_n (n := 18) (q := 0) dX8_keep_17 rfl rfl rfl ?_
      refine mw_getr (n := 21) (a := 0) (k := 0) cl8 (mkl hg (by decide) (by rfl)) (by decide) rfl rfl fl_X8_10 dX8_keep_18 rfl ?_
      refine mw_getr (n := 24) (a := 1) (k := 0) cl2 (mkl hg (by decide) (by rfl)) (by decide) rfl rfl fl_X8_80 dX8_keep_21 rfl ?_
      refine mw_callV (n := 27) (a := (76 + 3 * (p0).toNatClampNeg)) (As := [.ref (mad g 2)]) cl6 (mkA61 hg hi3) (t_X6_become hg (76 + 3 * (p0).toNatClampNeg) 2 (mkA61 hg hi3) (mkl hg (by decide) (by rfl)) h) (by decide) ok_X6_become rfl rfl lk_X8_87 im_X6_become se_X6_become dX8_keep_24 rfl rfl (Nat.le_of_ble_eq_true rfl) (fun q4 _ => ?_)
      show mw g l _ _ _ 27 _ [] q4 _
      refine mw_aload_n (n := 28) (q := 0) dX8_keep_27 rfl rfl rfl ?_
      refine mw_getr (n := 31) (a := 0) (k := 8) cl8 (mkl hg (by decide) (by rfl)) (by decide) rfl rfl fl_X8_60 dX8_keep_28 rfl ?_
      refine mw_iload_n (n := 32) (q := 1) dX8_keep_31 rfl rfl rfl ?_
      refine mw_iconst (n := 33) (v := 1) dX8_keep_32 rfl (by decide) ?_
      refine mw_zast (n := 34) (a := 75) (mkl hg (by decide) (by rfl)) (by decide) dX8_keep_33 rfl (mw_leth (fun h5 => ?_))
      refine mw_aload_n (n := 35) (q := 0) dX8_keep_34 rfl rfl rfl ?_
      refine mw_getr (n := 38) (a := 0) (k := 0) cl8 (mkl hg (by decide) (by rfl)) (by decide) rfl rfl fl_X8_10 dX8_keep_35 rfl ?_
      refine mw_getr (n := 41) (a := 1) (k := 0) cl2 (mkl hg (by decide) (by rfl)) (by decide) rfl rfl fl_X8_80 dX8_keep_38 rfl ?_
      refine mw_callV (n := 44) (a := 2) (As := []) cl6 (mkl hg (by decide) (by rfl)) (t_X6_cells hg 2 (mkl hg (by decide) (by rfl)) h5) (by decide) ok_X6_cells rfl rfl lk_X8_152 im_X6_cells se_X6_cells dX8_keep_41 rfl rfl (Nat.le_of_ble_eq_true rfl) (fun q6 _ => ?_)
      show mw g l _ _ _ 44 _ [.int q6] h5 _
      exact mw_iret dX8_keep_44 rfl rfl
    · refine mw_iconst (n := 10) (v := -1) dX8_keep_9 rfl (by decide) ?_
      exact mw_iret dX8_keep_10 rfl rfl
noncomputable def x_X8_again (N : Nat) (p0 : Int32) (h : mH) : Option (Int32 × mH) :=
  if p0 < 0 then
    some ((-1 : Int32), h)
  else
    if p0 < (2 : Int32) then
      mck p0 2 <|
      if ¬ (mgi h 75 (p0).toNatClampNeg) = 0 then
        mck p0 2 <|
        (x_X6_become 2 (76 + 3 * (p0).toNatClampNeg) h).bind fun q5 =>
        (x_X2_settle N 1 q5).bind fun q6 =>
        mlet (msi q6 20 2 (0 : Int32)) fun h7 =>
        (x_X6_cells 2 h7).bind fun q8 =>
        some (q8, h7)
      else
        some ((-3 : Int32), h)
    else
      some ((-1 : Int32), h)
set_option maxRecDepth 20000 in
set_option maxHeartbeats 4000000 in
theorem t_X8_again {g : mG} {l : Launch} (hg : mOK g) (N : Nat) (p0 : Int32) (h : mH) : mf g l 10 mX8_again (fun r : Int32 × mH => (some (Value.int r.1), r.2)) [.ref (mad g 0), .int p0] h (x_X8_again N p0 h) := by
  refine mf_of (by decide) (Nat.le_of_ble_eq_true rfl) ?_
  show mw g l 10 mX8_again (fun r : Int32 × mH => (some (Value.int r.1), r.2)) 0 [(0, .ref (mad g 0)), (1, .int p0)] [] h _
  unfold x_X8_again
  refine mw_iload_n (n := 1) (q := 1) dX8_again_0 rfl rfl rfl ?_
  refine mw_if_lt (n := 4) (t := 9) dX8_again_1 rfl (by decide) Iff.rfl (fun c1 => ?_) (fun c1 => ?_)
  · refine mw_iconst (n := 10) (v := -1) dX8_again_9 rfl (by decide) ?_
    exact mw_iret dX8_again_10 rfl rfl
  · refine mw_iload_n (n := 5) (q := 1) dX8_again_4 rfl rfl rfl ?_
    refine mw_iconst (n := 6) (v := 2) dX8_again_5 rfl (by decide) ?_
    refine mw_icmp_lt (n := 9) (t := 11) dX8_again_6 rfl (by decide) Iff.rfl (fun c2 => ?_) (fun c2 => ?_)
    · refine mw_aload_n (n := 12) (q := 0) dX8_again_11 rfl rfl rfl ?_
      refine mw_getr (n := 15) (a := 0) (k := 8) cl8 (mkl hg (by decide) (by rfl)) (by decide) rfl rfl fl_X8_60 dX8_again_12 rfl ?_
      refine mw_iload_n (n := 16) (q := 1) dX8_again_15 rfl rfl rfl ?_
      refine mw_zald (n := 17) (a := 75) (mkl hg (by decide) (by rfl)) dX8_again_16 rfl ?_
      refine mw_if_ne (n := 20) (t := 23) dX8_again_17 rfl (by decide) Iff.rfl (fun c3 => ?_) (fun c3 => ?_)
      · refine mw_aload_n (n := 24) (q := 0) dX8_again_23 rfl rfl rfl ?_
        refine mw_getr (n := 27) (a := 0) (k := 0) cl8 (mkl hg (by decide) (by rfl)) (by decide) rfl rfl fl_X8_10 dX8_again_24 rfl ?_
        refine mw_getr (n := 30) (a := 1) (k := 0) cl2 (mkl hg (by decide) (by rfl)) (by decide) rfl rfl fl_X8_80 dX8_again_27 rfl ?_
        refine mw_aload_n (n := 31) (q := 0) dX8_again_30 rfl rfl rfl ?_
        refine mw_getr (n := 34) (a := 0) (k := 7) cl8 (mkl hg (by decide) (by rfl)) (by decide) rfl rfl fl_X8_56 dX8_again_31 rfl ?_
        refine mw_iload_n (n := 35) (q := 1) dX8_again_34 rfl rfl rfl ?_
        refine mw_aald61 (n := 36) (a := 74) (mkl hg (by decide) (by rfl)) dX8_again_35 rfl (fun hi4 => ?_)
        refine mw_callV (n := 39) (a := 2) (As := [.ref (mad g (76 + 3 * (p0).toNatClampNeg))]) cl6 (mkl hg (by decide) (by rfl)) (t_X6_become hg 2 (76 + 3 * (p0).toNatClampNeg) (mkl hg (by decide) (by rfl)) (mkA61 hg hi4) h) (by decide) ok_X6_become rfl rfl lk_X8_87 im_X6_become se_X6_become dX8_again_36 rfl rfl (Nat.le_of_ble_eq_true rfl) (fun q5 _ => ?_)
        show mw g l _ _ _ 39 _ [] q5 _
        refine mw_aload_n (n := 40) (q := 0) dX8_again_39 rfl rfl rfl ?_
        refine mw_getr (n := 43) (a := 0) (k := 0) cl8 (mkl hg (by decide) (by rfl)) (by decide) rfl rfl fl_X8_10 dX8_again_40 rfl ?_
        refine mw_callV (n := 46) (a := 1) (As := []) cl2 (mkl hg (by decide) (by rfl)) (t_X2_settle hg N 1 (mkl hg (by decide) (by rfl)) q5) (by decide) ok_X2_settle rfl rfl lk_X8_65 im_X2_settle se_X2_settle dX8_again_43 rfl rfl (Nat.le_of_ble_eq_true rfl) (fun q6 _ => ?_)
        show mw g l _ _ _ 46 _ [] q6 _
        refine mw_aload_n (n := 47) (q := 0) dX8_again_46 rfl rfl rfl ?_
        refine mw_getr (n := 50) (a := 0) (k := 3) cl8 (mkl hg (by decide) (by rfl)) (by decide) rfl rfl fl_X8_29 dX8_again_47 rfl ?_
        refine mw_iconst (n := 51) (v := 0) dX8_again_50 rfl (by decide) ?_
        refine mw_puti (n := 54) (a := 20) (k := 2) cl0 ct0 (mkl hg (by decide) (by rfl)) (by decide) rfl rfl rfl rfl fl_X8_94 dX8_again_51 rfl (mw_leth (fun h7 => ?_))
        refine mw_aload_n (n := 55) (q := 0) dX8_again_54 rfl rfl rfl ?_
        refine mw_getr (n := 58) (a := 0) (k := 0) cl8 (mkl hg (by decide) (by rfl)) (by decide) rfl rfl fl_X8_10 dX8_again_55 rfl ?_
        refine mw_getr (n := 61) (a := 1) (k := 0) cl2 (mkl hg (by decide) (by rfl)) (by decide) rfl rfl fl_X8_80 dX8_again_58 rfl ?_
        refine mw_callV (n := 64) (a := 2) (As := []) cl6 (mkl hg (by decide) (by rfl)) (t_X6_cells hg 2 (mkl hg (by decide) (by rfl)) h7) (by decide) ok_X6_cells rfl rfl lk_X8_152 im_X6_cells se_X6_cells dX8_again_61 rfl rfl (Nat.le_of_ble_eq_true rfl) (fun q8 _ => ?_)
        show mw g l _ _ _ 64 _ [.int q8] h7 _
        exact mw_iret dX8_again_64 rfl rfl
      · refine mw_bipush (n := 22) (v := -3) dX8_again_20 rfl (by decide) ?_
        exact mw_iret dX8_again_22 rfl rfl
    · refine mw_iconst (n := 10) (v := -1) dX8_again_9 rfl (by decide) ?_
      exact mw_iret dX8_again_10 rfl rfl
noncomputable def x_X8_count (N : Nat) (p0 : Int32) (h : mH) : Option (Int32) :=
  if p0 = (0 : Int32) then
    some (mgi h 15 1)
  else if p0 = (1 : Int32) then
    some (mgi h 2 0)
  else if p0 = (2 : Int32) then
    some (mgi h 2 1)
  else if p0 = (3 : Int32) then
    (x_X6_pinCount 2 h).bind fun q5 =>
    some q5
  else if p0 = (4 : Int32) then
    if ¬ (mgi h 2 6) = (-1 : Int32) then
      (x_J6_bitCount_0f7a4 (mgi h 2 6)).bind fun q8 =>
      some q8
    else
      some (0 : Int32)
  else if p0 = (5 : Int32) then
    (x_X1_openCells 5 h).bind fun q10 =>
    (x_J6_bitCount_0f7a4 q10).bind fun q11 =>
    some q11
  else if p0 = (6 : Int32) then
    some (mgi h 20 2)
  else if p0 = (7 : Int32) then
    some (mgi h 0 11)
  else if p0 = (8 : Int32) then
    (x_X6_together N 2 (0 : Int32) h).bind fun q15 =>
    some q15
  else if p0 = (9 : Int32) then
    (x_X6_together N 2 (1 : Int32) h).bind fun q17 =>
    some q17
  else some (-2 : Int32)
set_option maxRecDepth 20000 in
set_option maxHeartbeats 4000000 in
theorem t_X8_count {g : mG} {l : Launch} (hg : mOK g) (N : Nat) (p0 : Int32) (h : mH) : mf g l 2 mX8_count (fun r : Int32 => (some (Value.int r), h)) [.ref (mad g 0), .int p0] h (x_X8_count N p0 h) := by
  refine mf_of (by decide) (Nat.le_of_ble_eq_true rfl) ?_
  show mw g l 2 mX8_count (fun r : Int32 => (some (Value.int r), h)) 0 [(0, .ref (mad g 0)), (1, .int p0)] [] h _
  unfold x_X8_count
  refine mw_iload_n (n := 1) (q := 1) dX8_count_0 rfl rfl rfl ?_
  refine mw_tcase (v := 0) (t := 56) dX8_count_1 (by decide) (by decide) rfl (by decide) (fun c1 => ?_) (fun c1 => ?_)
  · refine mw_aload_n (n := 57) (q := 0) dX8_count_56 rfl rfl rfl ?_
    refine mw_getr (n := 60) (a := 0) (k := 2) cl8 (mkl hg (by decide) (by rfl)) (by decide) rfl rfl fl_X8_22 dX8_count_57 rfl ?_
    refine mw_geti (n := 63) (a := 15) (k := 1) cl4 (mkl hg (by decide) (by rfl)) (by decide) rfl rfl fl_X8_72 dX8_count_60 rfl ?_
    exact mw_iret dX8_count_63 rfl rfl
  refine mw_tcase (v := 1) (t := 64) dX8_count_1 (by decide) (by decide) rfl (by decide) (fun c2 => ?_) (fun c2 => ?_)
  · refine mw_aload_n (n := 65) (q := 0) dX8_count_64 rfl rfl rfl ?_
    refine mw_getr (n := 68) (a := 0) (k := 0) cl8 (mkl hg (by decide) (by rfl)) (by decide) rfl rfl fl_X8_10 dX8_count_65 rfl ?_
    refine mw_getr (n := 71) (a := 1) (k := 0) cl2 (mkl hg (by decide) (by rfl)) (by decide) rfl rfl fl_X8_80 dX8_count_68 rfl ?_
    refine mw_geti (n := 74) (a := 2) (k := 0) cl6 (mkl hg (by decide) (by rfl)) (by decide) rfl rfl fl_X8_210 dX8_count_71 rfl ?_
    exact mw_iret dX8_count_74 rfl rfl
  refine mw_tcase (v := 2) (t := 75) dX8_count_1 (by decide) (by decide) rfl (by decide) (fun c3 => ?_) (fun c3 => ?_)
  · refine mw_aload_n (n := 76) (q := 0) dX8_count_75 rfl rfl rfl ?_
    refine mw_getr (n := 79) (a := 0) (k := 0) cl8 (mkl hg (by decide) (by rfl)) (by decide) rfl rfl fl_X8_10 dX8_count_76 rfl ?_
    refine mw_getr (n := 82) (a := 1) (k := 0) cl2 (mkl hg (by decide) (by rfl)) (by decide) rfl rfl fl_X8_80 dX8_count_79 rfl ?_
    refine mw_geti (n := 85) (a := 2) (k := 1) cl6 (mkl hg (by decide) (by rfl)) (by decide) rfl rfl fl_X8_213 dX8_count_82 rfl ?_
    exact mw_iret dX8_count_85 rfl rfl
  refine mw_tcase (v := 3) (t := 86) dX8_count_1 (by decide) (by decide) rfl (by decide) (fun c4 => ?_) (fun c4 => ?_)
  · refine mw_aload_n (n := 87) (q := 0) dX8_count_86 rfl rfl rfl ?_
    refine mw_getr (n := 90) (a := 0) (k := 0) cl8 (mkl hg (by decide) (by rfl)) (by decide) rfl rfl fl_X8_10 dX8_count_87 rfl ?_
    refine mw_getr (n := 93) (a := 1) (k := 0) cl2 (mkl hg (by decide) (by rfl)) (by decide) rfl rfl fl_X8_80 dX8_count_90 rfl ?_
    refine mw_callV (n := 96) (a := 2) (As := []) cl6 (mkl hg (by decide) (by rfl)) (t_X6_pinCount hg 2 (mkl hg (by decide) (by rfl)) h) (by decide) ok_X6_pinCount rfl rfl lk_X8_281 im_X6_pinCount se_X6_pinCount dX8_count_93 rfl rfl (Nat.le_of_ble_eq_true rfl) (fun q5 _ => ?_)
    show mw g l _ _ _ 96 _ [.int q5] h _
    exact mw_iret dX8_count_96 rfl rfl
  refine mw_tcase (v := 4) (t := 97) dX8_count_1 (by decide) (by decide) rfl (by decide) (fun c6 => ?_) (fun c6 => ?_)
  · refine mw_aload_n (n := 98) (q := 0) dX8_count_97 rfl rfl rfl ?_
    refine mw_getr (n := 101) (a := 0) (k := 0) cl8 (mkl hg (by decide) (by rfl)) (by decide) rfl rfl fl_X8_10 dX8_count_98 rfl ?_
    refine mw_getr (n := 104) (a := 1) (k := 0) cl2 (mkl hg (by decide) (by rfl)) (by decide) rfl rfl fl_X8_80 dX8_count_101 rfl ?_
    refine mw_geti (n := 107) (a := 2) (k := 6) cl6 (mkl hg (by decide) (by rfl)) (by decide) rfl rfl fl_X8_91 dX8_count_104 rfl ?_
    refine mw_iconst (n := 108) (v := -1) dX8_count_107 rfl (by decide) ?_
    refine mw_icmp_ne (n := 111) (t := 115) dX8_count_108 rfl (by decide) Iff.rfl (fun c7 => ?_) (fun c7 => ?_)
    · refine mw_aload_n (n := 116) (q := 0) dX8_count_115 rfl rfl rfl ?_
      refine mw_getr (n := 119) (a := 0) (k := 0) cl8 (mkl hg (by decide) (by rfl)) (by decide) rfl rfl fl_X8_10 dX8_count_116 rfl ?_
      refine mw_getr (n := 122) (a := 1) (k := 0) cl2 (mkl hg (by decide) (by rfl)) (by decide) rfl rfl fl_X8_80 dX8_count_119 rfl ?_
      refine mw_geti (n := 125) (a := 2) (k := 6) cl6 (mkl hg (by decide) (by rfl)) (by decide) rfl rfl fl_X8_91 dX8_count_122 rfl ?_
      refine mw_callS (n := 128) (As := [.int (mgi h 2 6)]) (t_J6_bitCount_0f7a4 (mgi h 2 6) h) (by decide) ok_J6_bitCount_0f7a4 rfl lk_X8_170 sm_J6_bitCount_0f7a4 dX8_count_125 rfl rfl (Nat.le_of_ble_eq_true rfl) (fun q8 _ => ?_)
      show mw g l _ _ _ 128 _ [.int q8] h _
      exact mw_iret dX8_count_128 rfl rfl
    · refine mw_iconst (n := 112) (v := 0) dX8_count_111 rfl (by decide) ?_
      refine mw_goto (n := 128) dX8_count_112 (by decide) ?_
      exact mw_iret dX8_count_128 rfl rfl
  refine mw_tcase (v := 5) (t := 129) dX8_count_1 (by decide) (by decide) rfl (by decide) (fun c9 => ?_) (fun c9 => ?_)
  · refine mw_aload_n (n := 130) (q := 0) dX8_count_129 rfl rfl rfl ?_
    refine mw_getr (n := 133) (a := 0) (k := 0) cl8 (mkl hg (by decide) (by rfl)) (by decide) rfl rfl fl_X8_10 dX8_count_130 rfl ?_
    refine mw_getr (n := 136) (a := 1) (k := 1) cl2 (mkl hg (by decide) (by rfl)) (by decide) rfl rfl fl_X8_95 dX8_count_133 rfl ?_
    refine mw_callV (n := 139) (a := 5) (As := []) cl1 (mkl hg (by decide) (by rfl)) (t_X1_openCells hg 5 (mkl hg (by decide) (by rfl)) h) (by decide) ok_X1_openCells rfl rfl lk_X8_284 im_X1_openCells se_X1_openCells dX8_count_136 rfl rfl (Nat.le_of_ble_eq_true rfl) (fun q10 _ => ?_)
    show mw g l _ _ _ 139 _ [.int q10] h _
    refine mw_callS (n := 142) (As := [.int q10]) (t_J6_bitCount_0f7a4 q10 h) (by decide) ok_J6_bitCount_0f7a4 rfl lk_X8_170 sm_J6_bitCount_0f7a4 dX8_count_139 rfl rfl (Nat.le_of_ble_eq_true rfl) (fun q11 _ => ?_)
    show mw g l _ _ _ 142 _ [.int q11] h _
    exact mw_iret dX8_count_142 rfl rfl
  refine mw_tcase (v := 6) (t := 143) dX8_count_1 (by decide) (by decide) rfl (by decide) (fun c12 => ?_) (fun c12 => ?_)
  · refine mw_aload_n (n := 144) (q := 0) dX8_count_143 rfl rfl rfl ?_
    refine mw_getr (n := 147) (a := 0) (k := 3) cl8 (mkl hg (by decide) (by rfl)) (by decide) rfl rfl fl_X8_29 dX8_count_144 rfl ?_
    refine mw_geti (n := 150) (a := 20) (k := 2) cl0 (mkl hg (by decide) (by rfl)) (by decide) rfl rfl fl_X8_94 dX8_count_147 rfl ?_
    exact mw_iret dX8_count_150 rfl rfl
  refine mw_tcase (v := 7) (t := 151) dX8_count_1 (by decide) (by decide) rfl (by decide) (fun c13 => ?_) (fun c13 => ?_)
  · refine mw_aload_n (n := 152) (q := 0) dX8_count_151 rfl rfl rfl ?_
    refine mw_geti (n := 155) (a := 0) (k := 11) cl8 (mkl hg (by decide) (by rfl)) (by decide) rfl rfl fl_X8_229 dX8_count_152 rfl ?_
    exact mw_iret dX8_count_155 rfl rfl
  refine mw_tcase (v := 8) (t := 156) dX8_count_1 (by decide) (by decide) rfl (by decide) (fun c14 => ?_) (fun c14 => ?_)
  · refine mw_aload_n (n := 157) (q := 0) dX8_count_156 rfl rfl rfl ?_
    refine mw_getr (n := 160) (a := 0) (k := 0) cl8 (mkl hg (by decide) (by rfl)) (by decide) rfl rfl fl_X8_10 dX8_count_157 rfl ?_
    refine mw_getr (n := 163) (a := 1) (k := 0) cl2 (mkl hg (by decide) (by rfl)) (by decide) rfl rfl fl_X8_80 dX8_count_160 rfl ?_
    refine mw_iconst (n := 164) (v := 0) dX8_count_163 rfl (by decide) ?_
    refine mw_callV (n := 167) (a := 2) (As := [.int (0 : Int32)]) cl6 (mkl hg (by decide) (by rfl)) (t_X6_together hg N 2 (0 : Int32) (mkl hg (by decide) (by rfl)) h) (by decide) ok_X6_together rfl rfl lk_X8_287 im_X6_together se_X6_together dX8_count_164 rfl rfl (Nat.le_of_ble_eq_true rfl) (fun q15 _ => ?_)
    show mw g l _ _ _ 167 _ [.int q15] h _
    exact mw_iret dX8_count_167 rfl rfl
  refine mw_tcase (v := 9) (t := 168) dX8_count_1 (by decide) (by decide) rfl (by decide) (fun c16 => ?_) (fun c16 => ?_)
  · refine mw_aload_n (n := 169) (q := 0) dX8_count_168 rfl rfl rfl ?_
    refine mw_getr (n := 172) (a := 0) (k := 0) cl8 (mkl hg (by decide) (by rfl)) (by decide) rfl rfl fl_X8_10 dX8_count_169 rfl ?_
    refine mw_getr (n := 175) (a := 1) (k := 0) cl2 (mkl hg (by decide) (by rfl)) (by decide) rfl rfl fl_X8_80 dX8_count_172 rfl ?_
    refine mw_iconst (n := 176) (v := 1) dX8_count_175 rfl (by decide) ?_
    refine mw_callV (n := 179) (a := 2) (As := [.int (1 : Int32)]) cl6 (mkl hg (by decide) (by rfl)) (t_X6_together hg N 2 (1 : Int32) (mkl hg (by decide) (by rfl)) h) (by decide) ok_X6_together rfl rfl lk_X8_287 im_X6_together se_X6_together dX8_count_176 rfl rfl (Nat.le_of_ble_eq_true rfl) (fun q17 _ => ?_)
    show mw g l _ _ _ 179 _ [.int q17] h _
    exact mw_iret dX8_count_179 rfl rfl
  refine mw_tdef (t := 180) dX8_count_1 (by have e0 : p0.toInt ≠ 0 := sw_ne c1 (by decide); have e1 : p0.toInt ≠ 1 := sw_ne c2 (by decide); have e2 : p0.toInt ≠ 2 := sw_ne c3 (by decide); have e3 : p0.toInt ≠ 3 := sw_ne c4 (by decide); have e4 : p0.toInt ≠ 4 := sw_ne c6 (by decide); have e5 : p0.toInt ≠ 5 := sw_ne c9 (by decide); have e6 : p0.toInt ≠ 6 := sw_ne c12 (by decide); have e7 : p0.toInt ≠ 7 := sw_ne c13 (by decide); have e8 : p0.toInt ≠ 8 := sw_ne c14 (by decide); have e9 : p0.toInt ≠ 9 := sw_ne c16 (by decide); omega) (by decide) ?_
  refine mw_bipush (n := 182) (v := -2) dX8_count_180 rfl (by decide) ?_
  exact mw_iret dX8_count_182 rfl rfl
