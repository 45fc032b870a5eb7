theorem dv0 : ∀ j, j < mNf 0 → defaultValue (tyX0 j) = mdv 0 j := by decide +kernel
theorem dv1 : ∀ j, j < mNf 1 → defaultValue (tyX1 j) = mdv 1 j := by decide +kernel
theorem dv2 : ∀ j, j < mNf 2 → defaultValue (tyX2 j) = mdv 2 j := by decide +kernel
theorem dv3 : ∀ j, j < mNf 3 → defaultValue (tyX3 j) = mdv 3 j := by decide +kernel
theorem dv4 : ∀ j, j < mNf 4 → defaultValue (tyX4 j) = mdv 4 j := by decide +kernel
theorem dv5 : ∀ j, j < mNf 5 → defaultValue (tyX5 j) = mdv 5 j := by decide +kernel
theorem dv6 : ∀ j, j < mNf 6 → defaultValue (tyX6 j) = mdv 6 j := by decide +kernel
theorem dv7 : ∀ j, j < mNf 7 → defaultValue (tyX7 j) = mdv 7 j := by decide +kernel
theorem dv8 : ∀ j, j < mNf 8 → defaultValue (tyX8 j) = mdv 8 j := by decide +kernel
theorem dv9 : ∀ j, j < mNf 9 → defaultValue (tyX9 j) = mdv 9 j := by decide +kernel
def kS6 (S : mB) (i : Nat) : mB := mss (mss (S) i 2) i 3
def kH6 (h : mH) (i : Nat) : mH := msi (msi (h) i 0 1) i 1 1
theorem fr_6 (i : Nat) (S : mB) (h : mH) (hF : mFr (i + 1) S h) : mFr (i + 3) (kS6 S i) (kH6 h i) := by
  have hF1 : mFr (i + 1) (S) (msi (h) i 0 1) := mFr_i hF (by omega)
  have hF2 : mFr (i + 1) (S) (msi (msi (h) i 0 1) i 1 1) := mFr_i hF1 (by omega)
  have hF3 : mFr (i + 2) (S) (msi (msi (h) i 0 1) i 1 1) := mFr_n hF2 (by omega)
  have hF4 : mFr (i + 2) (mss (S) i 2) (msi (msi (h) i 0 1) i 1 1) := mFr_s hF3 (by omega)
  have hF5 : mFr (i + 3) (mss (S) i 2) (msi (msi (h) i 0 1) i 1 1) := mFr_n hF4 (by omega)
  have hF6 : mFr (i + 3) (mss (mss (S) i 2) i 3) (msi (msi (h) i 0 1) i 1 1) := mFr_s hF5 (by omega)
  exact hF6
set_option maxRecDepth 20000 in
set_option maxHeartbeats 4000000 in
theorem k_6 (g : mG) (l : Launch) (i : Nat) (S : mB) (h : mH) (hk0 : mk i = 6) (hk1 : mk (i + 1) = 104) (hk2 : mk (i + 2) = 105) (hi : i + 3 ≤ 101) (hF : mFr (i + 1) S h) : mcn g l 0 mX6_init i (i + 1) S h (i + 3) (kS6 S i) (kH6 h i) 2 9 := by
  refine mcn_of (by decide) rfl (by decide) ?_
  refine mv_aload_n (n' := 1) (q := 0) dX6_init_0 rfl rfl rfl ?_
  refine mv_objInit (n' := 4) lo_X6_3 oi_im oi_code dX6_init_1 rfl ⟨Nat.le_of_ble_eq_true rfl, Nat.le_of_ble_eq_true rfl⟩ ?_
  refine mv_aload_n (n' := 5) (q := 0) dX6_init_4 rfl rfl rfl ?_
  refine mv_iconst (n' := 6) (v := 1) dX6_init_5 rfl (by decide) ?_
  refine mv_puti (a := i) (k := 0) (n' := 9) cl6 tyX6_ok nmX6 hk0 (by omega) (by omega) (by decide) rfl rfl rfl rfl fl_X6_9 dX6_init_6 rfl ?_
  have hF1 : mFr (i + 1) (S) (msi (h) i 0 1) := mFr_i hF (by omega)
  refine mv_aload_n (n' := 10) (q := 0) dX6_init_9 rfl rfl rfl ?_
  refine mv_iconst (n' := 11) (v := 1) dX6_init_10 rfl (by decide) ?_
  refine mv_puti (a := i) (k := 1) (n' := 14) cl6 tyX6_ok nmX6 hk0 (by omega) (by omega) (by decide) rfl rfl rfl rfl fl_X6_15 dX6_init_11 rfl ?_
  have hF2 : mFr (i + 1) (S) (msi (msi (h) i 0 1) i 1 1) := mFr_i hF1 (by omega)
  refine mv_aload_n (n' := 15) (q := 0) dX6_init_14 rfl rfl rfl ?_
  refine mv_iconst (n' := 16) (v := 4) dX6_init_15 rfl (by decide) ?_
  refine mv_newI (n := (i + 1)) (N := 4) (n' := 18) hk1 (by decide) (by decide) (by decide) hF2 ac_int dX6_init_16 rfl ⟨Nat.le_of_ble_eq_true rfl, Nat.le_of_ble_eq_true rfl⟩ ?_
  have hF3 : mFr (i + 2) (S) (msi (msi (h) i 0 1) i 1 1) := mFr_n hF2 (by omega)
  refine mv_putr (a := i) (k := 2) (t := 1) (n' := 21) cl6 tyX6_ok nmX6 hk0 (by omega) (by omega) (by decide) rfl rfl rfl rfl ⟨rfl, rfl⟩ fl_X6_18 dX6_init_18 rfl ?_
  have hF4 : mFr (i + 2) (mss (S) i 2) (msi (msi (h) i 0 1) i 1 1) := mFr_s hF3 (by omega)
  refine mv_aload_n (n' := 22) (q := 0) dX6_init_21 rfl rfl rfl ?_
  refine mv_iconst (n' := 23) (v := 5) dX6_init_22 rfl (by decide) ?_
  refine mv_newI (n := (i + 2)) (N := 5) (n' := 25) hk2 (by decide) (by decide) (by decide) hF4 ac_int dX6_init_23 rfl ⟨Nat.le_of_ble_eq_true rfl, Nat.le_of_ble_eq_true rfl⟩ ?_
  have hF5 : mFr (i + 3) (mss (S) i 2) (msi (msi (h) i 0 1) i 1 1) := mFr_n hF4 (by omega)
  refine mv_putr (a := i) (k := 3) (t := 2) (n' := 28) cl6 tyX6_ok nmX6 hk0 (by omega) (by omega) (by decide) rfl rfl rfl rfl ⟨rfl, rfl⟩ fl_X6_22 dX6_init_25 rfl ?_
  have hF6 : mFr (i + 3) (mss (mss (S) i 2) i 3) (msi (msi (h) i 0 1) i 1 1) := mFr_s hF5 (by omega)
  exact mv_ret dX6_init_28 rfl
def kS1 (S : mB) (i : Nat) : mB := mss (mss (S) i 0) i 2
def kH1 (h : mH) (i : Nat) : mH := msl (h) i 7 (-9)
theorem fr_1 (i : Nat) (S : mB) (h : mH) (hF : mFr (i + 1) S h) : mFr (i + 3) (kS1 S i) (kH1 h i) := by
  have hF1 : mFr (i + 2) (S) (h) := mFr_n hF (by omega)
  have hF2 : mFr (i + 2) (mss (S) i 0) (h) := mFr_s hF1 (by omega)
  have hF3 : mFr (i + 3) (mss (S) i 0) (h) := mFr_n hF2 (by omega)
  have hF4 : mFr (i + 3) (mss (mss (S) i 0) i 2) (h) := mFr_s hF3 (by omega)
  have hF5 : mFr (i + 3) (mss (mss (S) i 0) i 2) (msl (h) i 7 (-9)) := mFr_l hF4 (by omega)
  exact hF5
set_option maxRecDepth 20000 in
set_option maxHeartbeats 4000000 in
theorem k_1 (g : mG) (l : Launch) (i : Nat) (S : mB) (h : mH) (hk0 : mk i = 1) (hk1 : mk (i + 1) = 410) (hk2 : mk (i + 2) = 410) (hi : i + 3 ≤ 101) (hF : mFr (i + 1) S h) : mcn g l 0 mX1_init i (i + 1) S h (i + 3) (kS1 S i) (kH1 h i) 2 620 := by
  refine mcn_of (by decide) rfl (by decide) ?_
  refine mv_aload_n (n' := 1) (q := 0) dX1_init_0 rfl rfl rfl ?_
  refine mv_objInit (n' := 4) lo_X1_3 oi_im oi_code dX1_init_1 rfl ⟨Nat.le_of_ble_eq_true rfl, Nat.le_of_ble_eq_true rfl⟩ ?_
  refine mv_aload_n (n' := 5) (q := 0) dX1_init_4 rfl rfl rfl ?_
  refine mv_sipush (n' := 8) (v := 310) dX1_init_5 rfl (by decide) ?_
  refine mv_newI (n := (i + 1)) (N := 310) (n' := 10) hk1 (by decide) (by decide) (by decide) hF ac_int dX1_init_8 rfl ⟨Nat.le_of_ble_eq_true rfl, Nat.le_of_ble_eq_true rfl⟩ ?_
  have hF1 : mFr (i + 2) (S) (h) := mFr_n hF (by omega)
  refine mv_putr (a := i) (k := 0) (t := 1) (n' := 13) cl1 tyX1_ok nmX1 hk0 (by omega) (by omega) (by decide) rfl rfl rfl rfl ⟨rfl, rfl⟩ fl_X1_9 dX1_init_10 rfl ?_
  have hF2 : mFr (i + 2) (mss (S) i 0) (h) := mFr_s hF1 (by omega)
  refine mv_aload_n (n' := 14) (q := 0) dX1_init_13 rfl rfl rfl ?_
  refine mv_sipush (n' := 17) (v := 310) dX1_init_14 rfl (by decide) ?_
  refine mv_newI (n := (i + 2)) (N := 310) (n' := 19) hk2 (by decide) (by decide) (by decide) hF2 ac_int dX1_init_17 rfl ⟨Nat.le_of_ble_eq_true rfl, Nat.le_of_ble_eq_true rfl⟩ ?_
  have hF3 : mFr (i + 3) (mss (S) i 0) (h) := mFr_n hF2 (by omega)
  refine mv_putr (a := i) (k := 2) (t := 2) (n' := 22) cl1 tyX1_ok nmX1 hk0 (by omega) (by omega) (by decide) rfl rfl rfl rfl ⟨rfl, rfl⟩ fl_X1_15 dX1_init_19 rfl ?_
  have hF4 : mFr (i + 3) (mss (mss (S) i 0) i 2) (h) := mFr_s hF3 (by omega)
  refine mv_aload_n (n' := 23) (q := 0) dX1_init_22 rfl rfl rfl ?_
  refine mv_ldc2_w (n' := 26) dX1_init_23 rfl kl_X1_18 ?_
  refine mv_putl (a := i) (k := 7) (n' := 29) cl1 tyX1_ok nmX1 hk0 (by omega) (by omega) (by decide) rfl rfl rfl rfl fl_X1_20 dX1_init_26 rfl ?_
  have hF5 : mFr (i + 3) (mss (mss (S) i 0) i 2) (msl (h) i 7 (-9)) := mFr_l hF4 (by omega)
  exact mv_ret dX1_init_29 rfl
def kS2 (S : mB) (i : Nat) : mB := mss (kS1 (mss (kS6 (S) (i + 1)) i 0) (i + 4)) i 1
def kH2 (h : mH) (i : Nat) : mH := kH1 (kH6 (h) (i + 1)) (i + 4)
theorem fr_2 (i : Nat) (S : mB) (h : mH) (hF : mFr (i + 1) S h) : mFr (i + 7) (kS2 S i) (kH2 h i) := by
  have hF1 : mFr (i + 2) (S) (h) := mFr_n hF (by omega)
  have hF2 : mFr (i + 4) (kS6 (S) (i + 1)) (kH6 (h) (i + 1)) := fr_6 ((i + 1)) (S) (h) hF1
  have hF3 : mFr (i + 4) (mss (kS6 (S) (i + 1)) i 0) (kH6 (h) (i + 1)) := mFr_s hF2 (by omega)
  have hF4 : mFr (i + 5) (mss (kS6 (S) (i + 1)) i 0) (kH6 (h) (i + 1)) := mFr_n hF3 (by omega)
  have hF5 : mFr (i + 7) (kS1 (mss (kS6 (S) (i + 1)) i 0) (i + 4)) (kH1 (kH6 (h) (i + 1)) (i + 4)) := fr_1 ((i + 4)) (mss (kS6 (S) (i + 1)) i 0) (kH6 (h) (i + 1)) hF4
  have hF6 : mFr (i + 7) (mss (kS1 (mss (kS6 (S) (i + 1)) i 0) (i + 4)) i 1) (kH1 (kH6 (h) (i + 1)) (i + 4)) := mFr_s hF5 (by omega)
  exact hF6
set_option maxRecDepth 20000 in
set_option maxHeartbeats 4000000 in
theorem k_2 (g : mG) (l : Launch) (i : Nat) (S : mB) (h : mH) (hk0 : mk i = 2) (hk1 : mk (i + 1) = 6) (hk2 : mk (i + 2) = 104) (hk3 : mk (i + 3) = 105) (hk4 : mk (i + 4) = 1) (hk5 : mk (i + 5) = 410) (hk6 : mk (i + 6) = 410) (hi : i + 7 ≤ 101) (hF : mFr (i + 1) S h) : mcn g l 1 mX2_init i (i + 1) S h (i + 7) (kS2 S i) (kH2 h i) 6 646 := by
  refine mcn_of (by decide) rfl (by decide) ?_
  refine mv_aload_n (n' := 1) (q := 0) dX2_init_0 rfl rfl rfl ?_
  refine mv_objInit (n' := 4) lo_X2_3 oi_im oi_code dX2_init_1 rfl ⟨Nat.le_of_ble_eq_true rfl, Nat.le_of_ble_eq_true rfl⟩ ?_
  refine mv_aload_n (n' := 5) (q := 0) dX2_init_4 rfl rfl rfl ?_
  refine mv_new (n := (i + 1)) (n' := 8) cl6 tyX6_ok dv6 hk1 hF ck_X2_9 it_X6 ini_X6 dX2_init_5 rfl ⟨Nat.le_of_ble_eq_true rfl, Nat.le_of_ble_eq_true rfl⟩ ?_
  have hF1 : mFr (i + 2) (S) (h) := mFr_n hF (by omega)
  refine mv_dup (n' := 9) dX2_init_8 rfl rfl ?_
  refine mv_callIN (n' := 12) (k_6 g l (i + 1) (S) (h) hk1 hk2 hk3 (by omega) hF1) ok_X6_init rfl rfl ⟨Nat.le_of_ble_eq_true rfl, Nat.le_of_ble_eq_true rfl⟩ ⟨Nat.le_of_ble_eq_true rfl, Nat.le_of_ble_eq_true rfl⟩ ln_X2_11 im_X6_init dX2_init_9 rfl (Nat.le_of_ble_eq_true rfl) ?_
  have hF2 : mFr (i + 4) (kS6 (S) (i + 1)) (kH6 (h) (i + 1)) := fr_6 ((i + 1)) (S) (h) hF1
  refine mv_putr (a := i) (k := 0) (t := 1) (n' := 15) cl2 tyX2_ok nmX2 hk0 (by omega) (by omega) (by decide) rfl rfl rfl rfl ⟨rfl, rfl⟩ fl_X2_12 dX2_init_12 rfl ?_
  have hF3 : mFr (i + 4) (mss (kS6 (S) (i + 1)) i 0) (kH6 (h) (i + 1)) := mFr_s hF2 (by omega)
  refine mv_aload_n (n' := 16) (q := 0) dX2_init_15 rfl rfl rfl ?_
  refine mv_new (n := (i + 4)) (n' := 19) cl1 tyX1_ok dv1 hk4 hF3 ck_X2_18 it_X1 ini_X1 dX2_init_16 rfl ⟨Nat.le_of_ble_eq_true rfl, Nat.le_of_ble_eq_true rfl⟩ ?_
  have hF4 : mFr (i + 5) (mss (kS6 (S) (i + 1)) i 0) (kH6 (h) (i + 1)) := mFr_n hF3 (by omega)
  refine mv_dup (n' := 20) dX2_init_19 rfl rfl ?_
  refine mv_callIN (n' := 23) (k_1 g l (i + 4) (mss (kS6 (S) (i + 1)) i 0) (kH6 (h) (i + 1)) hk4 hk5 hk6 (by omega) hF4) ok_X1_init rfl rfl ⟨Nat.le_of_ble_eq_true rfl, Nat.le_of_ble_eq_true rfl⟩ ⟨Nat.le_of_ble_eq_true rfl, Nat.le_of_ble_eq_true rfl⟩ ln_X2_20 im_X1_init dX2_init_20 rfl (Nat.le_of_ble_eq_true rfl) ?_
  have hF5 : mFr (i + 7) (kS1 (mss (kS6 (S) (i + 1)) i 0) (i + 4)) (kH1 (kH6 (h) (i + 1)) (i + 4)) := fr_1 ((i + 4)) (mss (kS6 (S) (i + 1)) i 0) (kH6 (h) (i + 1)) hF4
  refine mv_putr (a := i) (k := 1) (t := 4) (n' := 26) cl2 tyX2_ok nmX2 hk0 (by omega) (by omega) (by decide) rfl rfl rfl rfl ⟨rfl, rfl⟩ fl_X2_21 dX2_init_23 rfl ?_
  have hF6 : mFr (i + 7) (mss (kS1 (mss (kS6 (S) (i + 1)) i 0) (i + 4)) i 1) (kH1 (kH6 (h) (i + 1)) (i + 4)) := mFr_s hF5 (by omega)
  exact mv_ret dX2_init_26 rfl
def kS4 (S : mB) : mB := mss (kS6 (mss (S) 15 0) 17) 15 2
def kH4 (h : mH) : mH := kH6 (h) 17
theorem fr_4 (S : mB) (h : mH) (hF : mFr 16 S h) : mFr 20 (kS4 S) (kH4 h) := by
  have hF1 : mFr 17 (S) (h) := mFr_n hF (by decide)
  have hF2 : mFr 17 (mss (S) 15 0) (h) := mFr_s hF1 (by decide)
  have hF3 : mFr 18 (mss (S) 15 0) (h) := mFr_n hF2 (by decide)
  have hF4 : mFr 20 (kS6 (mss (S) 15 0) 17) (kH6 (h) 17) := fr_6 (17) (mss (S) 15 0) (h) hF3
  have hF5 : mFr 20 (mss (kS6 (mss (S) 15 0) 17) 15 2) (kH6 (h) 17) := mFr_s hF4 (by decide)
  exact hF5
set_option maxRecDepth 20000 in
set_option maxHeartbeats 4000000 in
theorem k_4 (g : mG) (l : Launch) (S : mB) (h : mH) (hF : mFr 16 S h) : mcn g l 1 mX4_init 15 16 S h 20 (kS4 S) (kH4 h) 4 56 := by
  refine mcn_of (by decide) rfl (by decide) ?_
  refine mv_aload_n (n' := 1) (q := 0) dX4_init_0 rfl rfl rfl ?_
  refine mv_objInit (n' := 4) lo_X4_3 oi_im oi_code dX4_init_1 rfl ⟨Nat.le_of_ble_eq_true rfl, Nat.le_of_ble_eq_true rfl⟩ ?_
  refine mv_aload_n (n' := 5) (q := 0) dX4_init_4 rfl rfl rfl ?_
  refine mv_bipush (n' := 7) (v := 40) dX4_init_5 rfl (by decide) ?_
  refine mv_newI (n := 16) (N := 40) (n' := 9) rfl (by decide) (by decide) (by decide) hF ac_int dX4_init_7 rfl ⟨Nat.le_of_ble_eq_true rfl, Nat.le_of_ble_eq_true rfl⟩ ?_
  have hF1 : mFr 17 (S) (h) := mFr_n hF (by decide)
  refine mv_putr (a := 15) (k := 0) (t := 1) (n' := 12) cl4 tyX4_ok nmX4 rfl (by decide) (by decide) (by decide) rfl rfl rfl rfl ⟨rfl, rfl⟩ fl_X4_9 dX4_init_9 rfl ?_
  have hF2 : mFr 17 (mss (S) 15 0) (h) := mFr_s hF1 (by decide)
  refine mv_aload_n (n' := 13) (q := 0) dX4_init_12 rfl rfl rfl ?_
  refine mv_new (n := 17) (n' := 16) cl6 tyX6_ok dv6 rfl hF2 ck_X4_15 it_X6 ini_X6 dX4_init_13 rfl ⟨Nat.le_of_ble_eq_true rfl, Nat.le_of_ble_eq_true rfl⟩ ?_
  have hF3 : mFr 18 (mss (S) 15 0) (h) := mFr_n hF2 (by decide)
  refine mv_dup (n' := 17) dX4_init_16 rfl rfl ?_
  refine mv_callIN (n' := 20) (k_6 g l 17 (mss (S) 15 0) (h) rfl rfl rfl (by decide) hF3) ok_X6_init rfl rfl ⟨Nat.le_of_ble_eq_true rfl, Nat.le_of_ble_eq_true rfl⟩ ⟨Nat.le_of_ble_eq_true rfl, Nat.le_of_ble_eq_true rfl⟩ ln_X4_17 im_X6_init dX4_init_17 rfl (Nat.le_of_ble_eq_true rfl) ?_
  have hF4 : mFr 20 (kS6 (mss (S) 15 0) 17) (kH6 (h) 17) := fr_6 (17) (mss (S) 15 0) (h) hF3
  refine mv_putr (a := 15) (k := 2) (t := 2) (n' := 23) cl4 tyX4_ok nmX4 rfl (by decide) (by decide) (by decide) rfl rfl rfl rfl ⟨rfl, rfl⟩ fl_X4_18 dX4_init_20 rfl ?_
  have hF5 : mFr 20 (mss (kS6 (mss (S) 15 0) 17) 15 2) (kH6 (h) 17) := mFr_s hF4 (by decide)
  exact mv_ret dX4_init_23 rfl
def kS0 (S : mB) : mB := mss (kS6 (mss (kS6 (mss (kS6 (mss (kS6 (mss (kS6 (mss (kS6 (mss (kS6 (mss (kS6 (mss (kS6 (mss (kS6 (mss (kS6 (mss (kS6 (mss (kS6 (mss (kS6 (mss (S) 20 0) 22) 21 0) 25) 21 1) 28) 21 2) 31) 21 3) 34) 21 4) 37) 21 5) 40) 21 6) 43) 21 7) 46) 21 8) 49) 21 9) 52) 21 10) 55) 21 11) 58) 21 12) 61) 21 13
def kH0 (h : mH) : mH := kH6 (kH6 (kH6 (kH6 (kH6 (kH6 (kH6 (kH6 (kH6 (kH6 (kH6 (kH6 (kH6 (kH6 (h) 22) 25) 28) 31) 34) 37) 40) 43) 46) 49) 52) 55) 58) 61
theorem fr_0 (S : mB) (h : mH) (hF : mFr 21 S h) : mFr 64 (kS0 S) (kH0 h) := by
  have hF1 : mFr 22 (S) (h) := mFr_n hF (by decide)
  have hF2 : mFr 22 (mss (S) 20 0) (h) := mFr_s hF1 (by decide)
  have hF3 : mFr 23 (mss (S) 20 0) (h) := mFr_n hF2 (by decide)
  have hF4 : mFr 25 (kS6 (mss (S) 20 0) 22) (kH6 (h) 22) := fr_6 (22) (mss (S) 20 0) (h) hF3
  have hF5 : mFr 25 (mss (kS6 (mss (S) 20 0) 22) 21 0) (kH6 (h) 22) := mFr_s hF4 (by decide)
  have hF6 : mFr 26 (mss (kS6 (mss (S) 20 0) 22) 21 0) (kH6 (h) 22) := mFr_n hF5 (by decide)
  have hF7 : mFr 28 (kS6 (mss (kS6 (mss (S) 20 0) 22) 21 0) 25) (kH6 (kH6 (h) 22) 25) := fr_6 (25) (mss (kS6 (mss (S) 20 0) 22) 21 0) (kH6 (h) 22) hF6
  have hF8 : mFr 28 (mss (kS6 (mss (kS6 (mss (S) 20 0) 22) 21 0) 25) 21 1) (kH6 (kH6 (h) 22) 25) := mFr_s hF7 (by decide)
  have hF9 : mFr 29 (mss (kS6 (mss (kS6 (mss (S) 20 0) 22) 21 0) 25) 21 1) (kH6 (kH6 (h) 22) 25) := mFr_n hF8 (by decide)
  have hF10 : mFr 31 (kS6 (mss (kS6 (mss (kS6 (mss (S) 20 0) 22) 21 0) 25) 21 1) 28) (kH6 (kH6 (kH6 (h) 22) 25) 28) := fr_6 (28) (mss (kS6 (mss (kS6 (mss (S) 20 0) 22) 21 0) 25) 21 1) (kH6 (kH6 (h) 22) 25) hF9
  have hF11 : mFr 31 (mss (kS6 (mss (kS6 (mss (kS6 (mss (S) 20 0) 22) 21 0) 25) 21 1) 28) 21 2) (kH6 (kH6 (kH6 (h) 22) 25) 28) := mFr_s hF10 (by decide)
  have hF12 : mFr 32 (mss (kS6 (mss (kS6 (mss (kS6 (mss (S) 20 0) 22) 21 0) 25) 21 1) 28) 21 2) (kH6 (kH6 (kH6 (h) 22) 25) 28) := mFr_n hF11 (by decide)
  have hF13 : mFr 34 (kS6 (mss (kS6 (mss (kS6 (mss (kS6 (mss (S) 20 0) 22) 21 0) 25) 21 1) 28) 21 2) 31) (kH6 (kH6 (kH6 (kH6 (h) 22) 25) 28) 31) := fr_6 (31) (mss (kS6 (mss (kS6 (mss (kS6 (mss (S) 20 0) 22) 21 0) 25) 21 1) 28) 21 2) (kH6 (kH6 (kH6 (h) 22) 25) 28) hF12
  have hF14 : mFr 34 (mss (kS6 (mss (kS6 (mss (kS6 (mss (kS6 (mss (S) 20 0) 22) 21 0) 25) 21 1) 28) 21 2) 31) 21 3) (kH6 (kH6 (kH6 (kH6 (h) 22) 25) 28) 31) := mFr_s hF13 (by decide)
  have hF15 : mFr 35 (mss (kS6 (mss (kS6 (mss (kS6 (mss (kS6 (mss (S) 20 0) 22) 21 0) 25) 21 1) 28) 21 2) 31) 21 3) (kH6 (kH6 (kH6 (kH6 (h) 22) 25) 28) 31) := mFr_n hF14 (by decide)
  have hF16 : mFr 37 (kS6 (mss (kS6 (mss (kS6 (mss (kS6 (mss (kS6 (mss (S) 20 0) 22) 21 0) 25) 21 1) 28) 21 2) 31) 21 3) 34) (kH6 (kH6 (kH6 (kH6 (kH6 (h) 22) 25) 28) 31) 34) := fr_6 (34) (mss (kS6 (mss (kS6 (mss (kS6 (mss (kS6 (mss (S) 20 0) 22) 21 0) 25) 21 1) 28) 21 2) 31) 21 3) (kH6 (kH6 (kH6 (kH6 (h) 22) 25) 28) 31) hF15
  have hF17 : mFr 37 (mss (kS6 (mss (kS6 (mss (kS6 (mss (kS6 (mss (kS6 (mss (S) 20 0) 22) 21 0) 25) 21 1) 28) 21 2) 31) 21 3) 34) 21 4) (kH6 (kH6 (kH6 (kH6 (kH6 (h) 22) 25) 28) 31) 34) := mFr_s hF16 (by decide)
  have hF18 : mFr 38 (mss (kS6 (mss (kS6 (mss (kS6 (mss (kS6 (mss (kS6 (mss (S) 20 0) 22) 21 0) 25) 21 1) 28) 21 2) 31) 21 3) 34) 21 4) (kH6 (kH6 (kH6 (kH6 (kH6 (h) 22) 25) 28) 31) 34) := mFr_n hF17 (by decide)
  have hF19 : mFr 40 (kS6 (mss (kS6 (mss (kS6 (mss (kS6 (mss (kS6 (mss (kS6 (mss (S) 20 0) 22) 21 0) 25) 21 1) 28) 21 2) 31) 21 3) 34) 21 4) 37) (kH6 (kH6 (kH6 (kH6 (kH6 (kH6 (h) 22) 25) 28) 31) 34) 37) := fr_6 (37) (mss (kS6 (mss (kS6 (mss (kS6 (mss (kS6 (mss (kS6 (mss (S) 20 0) 22) 21 0) 25) 21 1) 28) 21 2) 31) 21 3) 34) 21 4) (kH6 (kH6 (kH6 (kH6 (kH6 (h) 22) 25) 28) 31) 34) hF18
  have hF20 : mFr 40 (mss (kS6 (mss (kS6 (mss (kS6 (mss (kS6 (mss (kS6 (mss (kS6 (mss (S) 20 0) 22) 21 0) 25) 21 1) 28) 21 2) 31) 21 3) 34) 21 4) 37) 21 5) (kH6 (kH6 (kH6 (kH6 (kH6 (kH6 (h) 22) 25) 28) 31) 34) 37) := mFr_s hF19 (by decide)
  have hF21 : mFr 41 (mss (kS6 (mss (kS6 (mss (kS6 (mss (kS6 (mss (kS6 (mss (kS6 (mss (S) 20 0) 22) 21 0) 25) 21 1) 28) 21 2) 31) 21 3) 34) 21 4) 37) 21 5) (kH6 (kH6 (kH6 (kH6 (kH6 (kH6 (h) 22) 25) 28) 31) 34) 37) := mFr_n hF20 (by decide)
  have hF22 : mFr 43 (kS6 (mss (kS6 (mss (kS6 (mss (kS6 (mss (kS6 (mss (kS6 (mss (kS6 (mss (S) 20 0) 22) 21 0) 25) 21 1) 28) 21 2) 31) 21 3) 34) 21 4) 37) 21 5) 40) (kH6 (kH6 (kH6 (kH6 (kH6 (kH6 (kH6 (h) 22) 25) 28) 31) 34) 37) 40) := fr_6 (40) (mss (kS6 (mss (kS6 (mss (kS6 (mss (kS6 (mss (kS6 (mss (kS6 (mss (S) 20 0) 22) 21 0) 25) 21 1) 28) 21 2) 31) 21 3) 34) 21 4) 37) 21 5) (kH6 (kH6 (kH6 (kH6 (kH6 (kH6 (h) 22) 25) 28) 31) 34) 37) hF21
  have hF23 : mFr 43 (mss (kS6 (mss (kS6 (mss (kS6 (mss (kS6 (mss (kS6 (mss (kS6 (mss (kS6 (mss (S) 20 0) 22) 21 0) 25) 21 1) 28) 21 2) 31) 21 3) 34) 21 4) 37) 21 5) 40) 21 6) (kH6 (kH6 (kH6 (kH6 (kH6 (kH6 (kH6 (h) 22) 25) 28) 31) 34) 37) 40) := mFr_s hF22 (by decide)
  have hF24 : mFr 44 (mss (kS6 (mss (kS6 (mss (kS6 (mss (kS6 (mss (kS6 (mss (kS6 (mss (kS6 (mss (S) 20 0) 22) 21 0) 25) 21 1) 28) 21 2) 31) 21 3) 34) 21 4) 37) 21 5) 40) 21 6) (kH6 (kH6 (kH6 (kH6 (kH6 (kH6 (kH6 (h) 22) 25) 28) 31) 34) 37) 40) := mFr_n hF23 (by decide)
  have hF25 : mFr 46 (kS6 (mss (kS6 (mss (kS6 (mss (kS6 (mss (kS6 (mss (kS6 (mss (kS6 (mss (kS6 (mss (S) 20 0) 22) 21 0) 25) 21 1) 28) 21 2) 31) 21 3) 34) 21 4) 37) 21 5) 40) 21 6) 43) (kH6 (kH6 (kH6 (kH6 (kH6 (kH6 (kH6 (kH6 (h) 22) 25) 28) 31) 34) 37) 40) 43) := fr_6 (43) (mss (kS6 (mss (kS6 (mss (kS6 (mss (kS6 (mss (kS6 (mss (kS6 (mss (kS6 (mss (S) 20 0) 22) 21 0) 25) 21 1) 28) 21 2) 31) 21 3) 34) 21 4) 37) 21 5) 40) 21 6) (kH6 (kH6 (kH6 (kH6 (kH6 (kH6 (kH6 (h) 22) 25) 28) 31) 34) 37) 40) hF24
  have hF26 : mFr 46 (mss (kS6 (mss (kS6 (mss (kS6 (mss (kS6 (mss (kS6 (mss (kS6 (mss (kS6 (mss (kS6 (mss (S) 20 0) 22) 21 0) 25) 21 1) 28) 21 2) 31) 21 3) 34) 21 4) 37) 21 5) 40) 21 6) 43) 21 7) (kH6 (kH6 (kH6 (kH6 (kH6 (kH6 (kH6 (kH6 (h) 22) 25) 28) 31) 34) 37) 40) 43) := mFr_s hF25 (by decide)
  have hF27 : mFr 47 (mss (kS6 (mss (kS6 (mss (kS6 (mss (kS6 (mss (kS6 (mss (kS6 (mss (kS6 (mss (kS6 (mss (S) 20 0) 22) 21 0) 25) 21 1) 28) 21 2) 31) 21 3) 34) 21 4) 37) 21 5) 40) 21 6) 43) 21 7) (kH6 (kH6 (kH6 (kH6 (kH6 (kH6 (kH6 (kH6 (h) 22) 25) 28) 31) 34) 37) 40) 43) := mFr_n hF26 (by decide)
  have hF28 : mFr 49 (kS6 (mss (kS6 (mss (kS6 (mss (kS6 (mss (kS6 (mss (kS6 (mss (kS6 (mss (kS6 (mss (kS6 (mss (S) 20 0) 22) 21 0) 25) 21 1) 28) 21 2) 31) 21 3) 34) 21 4) 37) 21 5) 40) 21 6) 43) 21 7) 46) (kH6 (kH6 (kH6 (kH6 (kH6 (kH6 (kH6 (kH6 (kH6 (h) 22) 25) 28) 31) 34) 37) 40) 43) 46) := fr_6 (46) (mss (kS6 (mss (kS6 (mss (kS6 (mss (kS6 (mss (kS6 (mss (kS6 (mss (kS6 (mss (kS6 (mss (S) 20 0) 22) 21 0) 25) 21 1) 28) 21 2) 31) 21 3) 34) 21 4) 37) 21 5) 40) 21 6) 43) 21 7) (kH6 (kH6 (kH6 (kH6 (kH6 (kH6 (kH6 (kH6 (h) 22) 25) 28) 31) 34) 37) 40) 43) hF27
  have hF29 : mFr 49 (mss (kS6 (mss (kS6 (mss (kS6 (mss (kS6 (mss (kS6 (mss (kS6 (mss (kS6 (mss (kS6 (mss (kS6 (mss (S) 20 0) 22) 21 0) 25) 21 1) 28) 21 2) 31) 21 3) 34) 21 4) 37) 21 5) 40) 21 6) 43) 21 7) 46) 21 8) (kH6 (kH6 (kH6 (kH6 (kH6 (kH6 (kH6 (kH6 (kH6 (h) 22) 25) 28) 31) 34) 37) 40) 43) 46) := mFr_s hF28 (by decide)
  have hF30 : mFr 50 (mss (kS6 (mss (kS6 (mss (kS6 (mss (kS6 (mss (kS6 (mss (kS6 (mss (kS6 (mss (kS6 (mss (kS6 (mss (S) 20 0) 22) 21 0) 25) 21 1) 28) 21 2) 31) 21 3) 34) 21 4) 37) 21 5) 40) 21 6) 43) 21 7) 46) 21 8) (kH6 (kH6 (kH6 (kH6 (kH6 (kH6 (kH6 (kH6 (kH6 (h) 22) 25) 28) 31) 34) 37) 40) 43) 46) := mFr_n hF29 (by decide)
  have hF31 : mFr 52 (kS6 (mss (kS6 (mss (kS6 (mss (kS6 (mss (kS6 (mss (kS6 (mss (kS6 (mss (kS6 (mss (kS6 (mss (kS6 (mss (S) 20 0) 22) 21 0) 25) 21 1) 28) 21 2) 31) 21 3) 34) 21 4) 37) 21 5) 40) 21 6) 43) 21 7) 46) 21 8) 49) (kH6 (kH6 (kH6 (kH6 (kH6 (kH6 (kH6 (kH6 (kH6 (kH6 (h) 22) 25) 28) 31) 34) 37) 40) 43) 46) 49) := fr_6 (49) (mss (kS6 (mss (kS6 (mss (kS6 (mss (kS6 (mss (kS6 (mss (kS6 (mss (kS6 (mss (kS6 (mss (kS6 (mss (S) 20 0) 22) 21 0) 25) 21 1) 28) 21 2) 31) 21 3) 34) 21 4) 37) 21 5) 40) 21 6) 43) 21 7) 46) 21 8) (kH6 (kH6 (kH6 (kH6 (kH6 (kH6 (kH6 (kH6 (kH6 (h) 22) 25) 28) 31) 34) 37) 40) 43) 46) hF30
  have hF32 : mFr 52 (mss (kS6 (mss (kS6 (mss (kS6 (mss (kS6 (mss (kS6 (mss (kS6 (mss (kS6 (mss (kS6 (mss (kS6 (mss (kS6 (mss (S) 20 0) 22) 21 0) 25) 21 1) 28) 21 2) 31) 21 3) 34) 21 4) 37) 21 5) 40) 21 6) 43) 21 7) 46) 21 8) 49) 21 9) (kH6 (kH6 (kH6 (kH6 (kH6 (kH6 (kH6 (kH6 (kH6 (kH6 (h) 22) 25) 28) 31) 34) 37) 40) 43) 46) 49) := mFr_s hF31 (by decide)
  have hF33 : mFr 53 (mss (kS6 (mss (kS6 (mss (kS6 (mss (kS6 (mss (kS6 (mss (kS6 (mss (kS6 (mss (kS6 (mss (kS6 (mss (kS6 (mss (S) 20 0) 22) 21 0) 25) 21 1) 28) 21 2) 31) 21 3) 34) 21 4) 37) 21 5) 40) 21 6) 43) 21 7) 46) 21 8) 49) 21 9) (kH6 (kH6 (kH6 (kH6 (kH6 (kH6 (kH6 (kH6 (kH6 (kH6 (h) 22) 25) 28) 31) 34) 37) 40) 43) 46) 49) := mFr_n hF32 (by decide)
  have hF34 : mFr 55 (kS6 (mss (kS6 (mss (kS6 (mss (kS6 (mss (kS6 (mss (kS6 (mss (kS6 (mss (kS6 (mss (kS6 (mss (kS6 (mss (kS6 (mss (S) 20 0) 22) 21 0) 25) 21 1) 28) 21 2) 31) 21 3) 34) 21 4) 37) 21 5) 40) 21 6) 43) 21 7) 46) 21 8) 49) 21 9) 52) (kH6 (kH6 (kH6 (kH6 (kH6 (kH6 (kH6 (kH6 (kH6 (kH6 (kH6 (h) 22) 25) 28) 31) 34) 37) 40) 43) 46) 49) 52) := fr_6 (52) (mss (kS6 (mss (kS6 (mss (kS6 (mss (kS6 (mss (kS6 (mss (kS6 (mss (kS6 (mss (kS6 (mss (kS6 (mss (kS6 (mss (S) 20 0) 22) 21 0) 25) 21 1) 28) 21 2) 31) 21 3) 34) 21 4) 37) 21 5) 40) 21 6) 43) 21 7) 46) 21 8) 49) 21 9) (kH6 (kH6 (kH6 (kH6 (kH6 (kH6 (kH6 (kH6 (kH6 (kH6 (h) 22) 25) 28) 31) 34) 37) 40) 43) 46) 49) hF33
  have hF35 : mFr 55 (mss (kS6 (mss (kS6 (mss (kS6 (mss (kS6 (mss (kS6 (mss (kS6 (mss (kS6 (mss (kS6 (mss (kS6 (mss (kS6 (mss (kS6 (mss (S) 20 0) 22) 21 0) 25) 21 1) 28) 21 2) 31) 21 3) 34) 21 4) 37) 21 5) 40) 21 6) 43) 21 7) 46) 21 8) 49) 21 9) 52) 21 10) (kH6 (kH6 (kH6 (kH6 (kH6 (kH6 (kH6 (kH6 (kH6 (kH6 (kH6 (h) 22) 25) 28) 31) 34) 37) 40) 43) 46) 49) 52) := mFr_s hF34 (by decide)
  have hF36 : mFr 56 (mss (kS6 (mss (kS6 (mss (kS6 (mss (kS6 (mss (kS6 (mss (kS6 (mss (kS6 (mss (kS6 (mss (kS6 (mss (kS6 (mss (kS6 (mss (S) 20 0) 22) 21 0) 25) 21 1) 28) 21 2) 31) 21 3) 34) 21 4) 37) 21 5) 40) 21 6) 43) 21 7) 46) 21 8) 49) 21 9) 52) 21 10) (kH6 (kH6 (kH6 (kH6 (kH6 (kH6 (kH6 (kH6 (kH6 (kH6 (kH6 (h) 22) 25) 28) 31) 34) 37) 40) 43) 46) 49) 52) := mFr_n hF35 (by decide)
  have hF37 : mFr 58 (kS6 (mss (kS6 (mss (kS6 (mss (kS6 (mss (kS6 (mss (kS6 (mss (kS6 (mss (kS6 (mss (kS6 (mss (kS6 (mss (kS6 (mss (kS6 (mss (S) 20 0) 22) 21 0) 25) 21 1) 28) 21 2) 31) 21 3) 34) 21 4) 37) 21 5) 40) 21 6) 43) 21 7) 46) 21 8) 49) 21 9) 52) 21 10) 55) (kH6 (kH6 (kH6 (kH6 (kH6 (kH6 (kH6 (kH6 (kH6 (kH6 (kH6 (kH6 (h) 22) 25) 28) 31) 34) 37) 40) 43) 46) 49) 52) 55) := fr_6 (55) (mss (kS6 (mss (kS6 (mss (kS6 (mss (kS6 (mss (kS6 (mss (kS6 (mss (kS6 (mss (kS6 (mss (kS6 (mss (kS6 (mss (kS6 (mss (S) 20 0) 22) 21 0) 25) 21 1) 28) 21 2) 31) 21 3) 34) 21 4) 37) 21 5) 40) 21 6) 43) 21 7) 46) 21 8) 49) 21 9) 52) 21 10) (kH6 (kH6 (kH6 (kH6 (kH6 (kH6 (kH6 (kH6 (kH6 (kH6 (kH6 (h) 22) 25) 28) 31) 34) 37) 40) 43) 46) 49) 52) hF36
  have hF38 : mFr 58 (mss (kS6 (mss (kS6 (mss (kS6 (mss (kS6 (mss (kS6 (mss (kS6 (mss (kS6 (mss (kS6 (mss (kS6 (mss (kS6 (mss (kS6 (mss (kS6 (mss (S) 20 0) 22) 21 0) 25) 21 1) 28) 21 2) 31) 21 3) 34) 21 4) 37) 21 5) 40) 21 6) 43) 21 7) 46) 21 8) 49) 21 9) 52) 21 10) 55) 21 11) (kH6 (kH6 (kH6 (kH6 (kH6 (kH6 (kH6 (kH6 (kH6 (kH6 (kH6 (kH6 (h) 22) 25) 28) 31) 34) 37) 40) 43) 46) 49) 52) 55) := mFr_s hF37 (by decide)
  have hF39 : mFr 59 (mss (kS6 (mss (kS6 (mss (kS6 (mss (kS6 (mss (kS6 (mss (kS6 (mss (kS6 (mss (kS6 (mss (kS6 (mss (kS6 (mss (kS6 (mss (kS6 (mss (S) 20 0) 22) 21 0) 25) 21 1) 28) 21 2) 31) 21 3) 34) 21 4) 37) 21 5) 40) 21 6) 43) 21 7) 46) 21 8) 49) 21 9) 52) 21 10) 55) 21 11) (kH6 (kH6 (kH6 (kH6 (kH6 (kH6 (kH6 (kH6 (kH6 (kH6 (kH6 (kH6 (h) 22) 25) 28) 31) 34) 37) 40) 43) 46) 49) 52) 55) := mFr_n hF38 (by decide)
  have hF40 : mFr 61 (kS6 (mss (kS6 (mss (kS6 (mss (kS6 (mss (kS6 (mss (kS6 (mss (kS6 (mss (kS6 (mss (kS6 (mss (kS6 (mss (kS6 (mss (kS6 (mss (kS6 (mss (S) 20 0) 22) 21 0) 25) 21 1) 28) 21 2) 31) 21 3) 34) 21 4) 37) 21 5) 40) 21 6) 43) 21 7) 46) 21 8) 49) 21 9) 52) 21 10) 55) 21 11) 58) (kH6 (kH6 (kH6 (kH6 (kH6 (kH6 (kH6 (kH6 (kH6 (kH6 (kH6 (kH6 (kH6 (h) 22) 25) 28) 31) 34) 37) 40) 43) 46) 49) 52) 55) 58) := fr_6 (58) (mss (kS6 (mss (kS6 (mss (kS6 (mss (kS6 (mss (kS6 (mss (kS6 (mss (kS6 (mss (kS6 (mss (kS6 (mss (kS6 (mss (kS6 (mss (kS6 (mss (S) 20 0) 22) 21 0) 25) 21 1) 28) 21 2) 31) 21 3) 34) 21 4) 37) 21 5) 40) 21 6) 43) 21 7) 46) 21 8) 49) 21 9) 52) 21 10) 55) 21 11) (kH6 (kH6 (kH6 (kH6 (kH6 (kH6 (kH6 (kH6 (kH6 (kH6 (kH6 (kH6 (h) 22) 25) 28) 31) 34) 37) 40) 43) 46) 49) 52) 55) hF39
  have hF41 : mFr 61 (mss (kS6 (mss (kS6 (mss (kS6 (mss (kS6 (mss (kS6 (mss (kS6 (mss (kS6 (mss (kS6 (mss (kS6 (mss (kS6 (mss (kS6 (mss (kS6 (mss (kS6 (mss (S) 20 0) 22) 21 0) 25) 21 1) 28) 21 2) 31) 21 3) 34) 21 4) 37) 21 5) 40) 21 6) 43) 21 7) 46) 21 8) 49) 21 9) 52) 21 10) 55) 21 11) 58) 21 12) (kH6 (kH6 (kH6 (kH6 (kH6 (kH6 (kH6 (kH6 (kH6 (kH6 (kH6 (kH6 (kH6 (h) 22) 25) 28) 31) 34) 37) 40) 43) 46) 49) 52) 55) 58) := mFr_s hF40 (by decide)
  have hF42 : mFr 62 (mss (kS6 (mss (kS6 (mss (kS6 (mss (kS6 (mss (kS6 (mss (kS6 (mss (kS6 (mss (kS6 (mss (kS6 (mss (kS6 (mss (kS6 (mss (kS6 (mss (kS6 (mss (S) 20 0) 22) 21 0) 25) 21 1) 28) 21 2) 31) 21 3) 34) 21 4) 37) 21 5) 40) 21 6) 43) 21 7) 46) 21 8) 49) 21 9) 52) 21 10) 55) 21 11) 58) 21 12) (kH6 (kH6 (kH6 (kH6 (kH6 (kH6 (kH6 (kH6 (kH6 (kH6 (kH6 (kH6 (kH6 (h) 22) 25) 28) 31) 34) 37) 40) 43) 46) 49) 52) 55) 58) := mFr_n hF41 (by decide)
  have hF43 : mFr 64 (kS6 (mss (kS6 (mss (kS6 (mss (kS6 (mss (kS6 (mss (kS6 (mss (kS6 (mss (kS6 (mss (kS6 (mss (kS6 (mss (kS6 (mss (kS6 (mss (kS6 (mss (kS6 (mss (S) 20 0) 22) 21 0) 25) 21 1) 28) 21 2) 31) 21 3) 34) 21 4) 37) 21 5) 40) 21 6) 43) 21 7) 46) 21 8) 49) 21 9) 52) 21 10) 55) 21 11) 58) 21 12) 61) (kH6 (kH6 (kH6 (kH6 (kH6 (kH6 (kH6 (kH6 (kH6 (kH6 (kH6 (kH6 (kH6 (kH6 (h) 22) 25) 28) 31) 34) 37) 40) 43) 46) 49) 52) 55) 58) 61) := fr_6 (61) (mss (kS6 (mss (kS6 (mss (kS6 (mss (kS6 (mss (kS6 (mss (kS6 (mss (kS6 (mss (kS6 (mss (kS6 (mss (kS6 (mss (kS6 (mss (kS6 (mss (kS6 (mss (S) 20 0) 22) 21 0) 25) 21 1) 28) 21 2) 31) 21 3) 34) 21 4) 37) 21 5) 40) 21 6) 43) 21 7) 46) 21 8) 49) 21 9) 52) 21 10) 55) 21 11) 58) 21 12) (kH6 (kH6 (kH6 (kH6 (kH6 (kH6 (kH6 (kH6 (kH6 (kH6 (kH6 (kH6 (kH6 (h) 22) 25) 28) 31) 34) 37) 40) 43) 46) 49) 52) 55) 58) hF42
  have hF44 : mFr 64 (mss (kS6 (mss (kS6 (mss (kS6 (mss (kS6 (mss (kS6 (mss (kS6 (mss (kS6 (mss (kS6 (mss (kS6 (mss (kS6 (mss (kS6 (mss (kS6 (mss (kS6 (mss (kS6 (mss (S) 20 0) 22) 21 0) 25) 21 1) 28) 21 2) 31) 21 3) 34) 21 4) 37) 21 5) 40) 21 6) 43) 21 7) 46) 21 8) 49) 21 9) 52) 21 10) 55) 21 11) 58) 21 12) 61) 21 13) (kH6 (kH6 (kH6 (kH6 (kH6 (kH6 (kH6 (kH6 (kH6 (kH6 (kH6 (kH6 (kH6 (kH6 (h) 22) 25) 28) 31) 34) 37) 40) 43) 46) 49) 52) 55) 58) 61) := mFr_s hF43 (by decide)
  exact hF44
set_option maxRecDepth 20000 in
set_option maxHeartbeats 4000000 in
theorem k_0 (g : mG) (l : Launch) (S : mB) (h : mH) (hF : mFr 21 S h) : mcn g l 1 mX0_init 20 21 S h 64 (kS0 S) (kH0 h) 43 238 := by
  refine mcn_of (by decide) rfl (by decide) ?_
  refine mv_aload_n (n' := 1) (q := 0) dX0_init_0 rfl rfl rfl ?_
  refine mv_objInit (n' := 4) lo_X0_3 oi_im oi_code dX0_init_1 rfl ⟨Nat.le_of_ble_eq_true rfl, Nat.le_of_ble_eq_true rfl⟩ ?_
  refine mv_aload_n (n' := 5) (q := 0) dX0_init_4 rfl rfl rfl ?_
  refine mv_bipush (n' := 7) (v := 14) dX0_init_5 rfl (by decide) ?_
  refine mv_newA (n := 21) (N := 14) (n' := 10) (Or.inl ⟨rfl, rfl⟩) (by decide) (by decide) hF ck_X0_9 dX0_init_7 rfl ⟨Nat.le_of_ble_eq_true rfl, Nat.le_of_ble_eq_true rfl⟩ ?_
  have hF1 : mFr 22 (S) (h) := mFr_n hF (by decide)
  refine mv_putr (a := 20) (k := 0) (t := 1) (n' := 13) cl0 tyX0_ok nmX0 rfl (by decide) (by decide) (by decide) rfl rfl rfl rfl ⟨rfl, rfl⟩ fl_X0_11 dX0_init_10 rfl ?_
  have hF2 : mFr 22 (mss (S) 20 0) (h) := mFr_s hF1 (by decide)
  refine mv_iconst (n' := 14) (v := 0) dX0_init_13 rfl (by decide) ?_
  refine mv_istore_n (n' := 15) dX0_init_14 rfl rfl (by decide) rfl ?_
  refine mv_iload_n (n' := 16) (q := 0) dX0_init_15 rfl rfl rfl ?_
  refine mv_bipush (n' := 18) (v := 14) dX0_init_16 rfl (by decide) ?_
  refine mv_ge_f (n' := 21) (t := 40) dX0_init_18 rfl (by decide) (by decide) ?_
  refine mv_aload_n (n' := 22) (q := 1) dX0_init_21 rfl rfl rfl ?_
  refine mv_getr (a := 20) (k := 0) (t := 1) (n' := 25) cl0 rfl (by decide) (by decide) rfl (by first | rfl | simp [mss, kS0, kS1, kS2, kS3, kS4, kS5, kS6, kS7]) rfl fl_X0_11 dX0_init_22 rfl ?_
  refine mv_iload_n (n' := 26) (q := 0) dX0_init_25 rfl rfl rfl ?_
  refine mv_new (n := 22) (n' := 29) cl6 tyX6_ok dv6 rfl hF2 ck_X0_9 it_X6 ini_X6 dX0_init_26 rfl ⟨Nat.le_of_ble_eq_true rfl, Nat.le_of_ble_eq_true rfl⟩ ?_
  have hF3 : mFr 23 (mss (S) 20 0) (h) := mFr_n hF2 (by decide)
  refine mv_dup (n' := 30) dX0_init_29 rfl rfl ?_
  refine mv_callIN (n' := 33) (k_6 g l 22 (mss (S) 20 0) (h) rfl rfl rfl (by decide) hF3) ok_X6_init rfl rfl ⟨Nat.le_of_ble_eq_true rfl, Nat.le_of_ble_eq_true rfl⟩ ⟨Nat.le_of_ble_eq_true rfl, Nat.le_of_ble_eq_true rfl⟩ ln_X0_17 im_X6_init dX0_init_30 rfl (Nat.le_of_ble_eq_true rfl) ?_
  have hF4 : mFr 25 (kS6 (mss (S) 20 0) 22) (kH6 (h) 22) := fr_6 (22) (mss (S) 20 0) (h) hF3
  refine mv_aast (a := 21) (j := 0) (b0 := 22) (N := 14) (n' := 34) (Or.inl ⟨rfl, rfl, rfl⟩) (by decide) (by decide) (by decide) rfl (by decide) (show ¬ ((0 : Int32) < 0 ∨ 14 ≤ (0 : Int32).toNatClampNeg) by decide) dX0_init_33 rfl ?_
  have hF5 : mFr 25 (mss (kS6 (mss (S) 20 0) 22) 21 0) (kH6 (h) 22) := mFr_s hF4 (by decide)
  refine mv_iinc (n' := 37) (q := 0) (v := 1) dX0_init_34 rfl rfl (by decide) (by decide) rfl ?_
  refine mv_goto (n' := 15) dX0_init_37 (by decide) ?_
  refine mv_iload_n (n' := 16) (q := 0) dX0_init_15 rfl rfl rfl ?_
  refine mv_bipush (n' := 18) (v := 14) dX0_init_16 rfl (by decide) ?_
  refine mv_ge_f (n' := 21) (t := 40) dX0_init_18 rfl (by decide) (by decide) ?_
  refine mv_aload_n (n' := 22) (q := 1) dX0_init_21 rfl rfl rfl ?_
  refine mv_getr (a := 20) (k := 0) (t := 1) (n' := 25) cl0 rfl (by decide) (by decide) rfl (by first | rfl | simp [mss, kS0, kS1, kS2, kS3, kS4, kS5, kS6, kS7]) rfl fl_X0_11 dX0_init_22 rfl ?_
  refine mv_iload_n (n' := 26) (q := 0) dX0_init_25 rfl rfl rfl ?_
  refine mv_new (n := 25) (n' := 29) cl6 tyX6_ok dv6 rfl hF5 ck_X0_9 it_X6 ini_X6 dX0_init_26 rfl ⟨Nat.le_of_ble_eq_true rfl, Nat.le_of_ble_eq_true rfl⟩ ?_
  have hF6 : mFr 26 (mss (kS6 (mss (S) 20 0) 22) 21 0) (kH6 (h) 22) := mFr_n hF5 (by decide)
  refine mv_dup (n' := 30) dX0_init_29 rfl rfl ?_
  refine mv_callIN (n' := 33) (k_6 g l 25 (mss (kS6 (mss (S) 20 0) 22) 21 0) (kH6 (h) 22) rfl rfl rfl (by decide) hF6) ok_X6_init rfl rfl ⟨Nat.le_of_ble_eq_true rfl, Nat.le_of_ble_eq_true rfl⟩ ⟨Nat.le_of_ble_eq_true rfl, Nat.le_of_ble_eq_true rfl⟩ ln_X0_17 im_X6_init dX0_init_30 rfl (Nat.le_of_ble_eq_true rfl) ?_
  have hF7 : mFr 28 (kS6 (mss (kS6 (mss (S) 20 0) 22) 21 0) 25) (kH6 (kH6 (h) 22) 25) := fr_6 (25) (mss (kS6 (mss (S) 20 0) 22) 21 0) (kH6 (h) 22) hF6
  refine mv_aast (a := 21) (j := 1) (b0 := 22) (N := 14) (n' := 34) (Or.inl ⟨rfl, rfl, rfl⟩) (by decide) (by decide) (by decide) rfl (by decide) (show ¬ ((1 : Int32) < 0 ∨ 14 ≤ (1 : Int32).toNatClampNeg) by decide) dX0_init_33 rfl ?_
  have hF8 : mFr 28 (mss (kS6 (mss (kS6 (mss (S) 20 0) 22) 21 0) 25) 21 1) (kH6 (kH6 (h) 22) 25) := mFr_s hF7 (by decide)
  refine mv_iinc (n' := 37) (q := 0) (v := 2) dX0_init_34 rfl rfl (by decide) (by decide) rfl ?_
  refine mv_goto (n' := 15) dX0_init_37 (by decide) ?_
  refine mv_iload_n (n' := 16) (q := 0) dX0_init_15 rfl rfl rfl ?_
  refine mv_bipush (n' := 18) (v := 14) dX0_init_16 rfl (by decide) ?_
  refine mv_ge_f (n' := 21) (t := 40) dX0_init_18 rfl (by decide) (by decide) ?_
  refine mv_aload_n (n' := 22) (q := 1) dX0_init_21 rfl rfl rfl ?_
  refine mv_getr (a := 20) (k := 0) (t := 1) (n' := 25) cl0 rfl (by decide) (by decide) rfl (by first | rfl | simp [mss, kS0, kS1, kS2, kS3, kS4, kS5, kS6, kS7]) rfl fl_X0_11 dX0_init_22 rfl ?_
  refine mv_iload_n (n' := 26) (q := 0) dX0_init_25 rfl rfl rfl ?_
  refine mv_new (n := 28) (n' := 29) cl6 tyX6_ok dv6 rfl hF8 ck_X0_9 it_X6 ini_X6 dX0_init_26 rfl ⟨Nat.le_of_ble_eq_true rfl, Nat.le_of_ble_eq_true rfl⟩ ?_
  have hF9 : mFr 29 (mss (kS6 (mss (kS6 (mss (S) 20 0) 22) 21 0) 25) 21 1) (kH6 (kH6 (h) 22) 25) := mFr_n hF8 (by decide)
  refine mv_dup (n' := 30) dX0_init_29 rfl rfl ?_
  refine mv_callIN (n' := 33) (k_6 g l 28 (mss (kS6 (mss (kS6 (mss (S) 20 0) 22) 21 0) 25) 21 1) (kH6 (kH6 (h) 22) 25) rfl rfl rfl (by decide) hF9) ok_X6_init rfl rfl ⟨Nat.le_of_ble_eq_true rfl, Nat.le_of_ble_eq_true rfl⟩ ⟨Nat.le_of_ble_eq_true rfl, Nat.le_of_ble_eq_true rfl⟩ ln_X0_17 im_X6_init dX0_init_30 rfl (Nat.le_of_ble_eq_true rfl) ?_
  have hF10 : mFr 31 (kS6 (mss (kS6 (mss (kS6 (mss (S) 20 0) 22) 21 0) 25) 21 1) 28) (kH6 (kH6 (kH6 (h) 22) 25) 28) := fr_6 (28) (mss (kS6 (mss (kS6 (mss (S) 20 0) 22) 21 0) 25) 21 1) (kH6 (kH6 (h) 22) 25) hF9
  refine mv_aast (a := 21) (j := 2) (b0 := 22) (N := 14) (n' := 34) (Or.inl ⟨rfl, rfl, rfl⟩) (by decide) (by decide) (by decide) rfl (by decide) (show ¬ ((2 : Int32) < 0 ∨ 14 ≤ (2 : Int32).toNatClampNeg) by decide) dX0_init_33 rfl ?_
  have hF11 : mFr 31 (mss (kS6 (mss (kS6 (mss (kS6 (mss (S) 20 0) 22) 21 0) 25) 21 1) 28) 21 2) (kH6 (kH6 (kH6 (h) 22) 25) 28) := mFr_s hF10 (by decide)
  refine mv_iinc (n' := 37) (q := 0) (v := 3) dX0_init_34 rfl rfl (by decide) (by decide) rfl ?_
  refine mv_goto (n' := 15) dX0_init_37 (by decide) ?_
  refine mv_iload_n (n' := 16) (q := 0) dX0_init_15 rfl rfl rfl ?_
  refine mv_bipush (n' := 18) (v := 14) dX0_init_16 rfl (by decide) ?_
  refine mv_ge_f (n' := 21) (t := 40) dX0_init_18 rfl (by decide) (by decide) ?_
  refine mv_aload_n (n' := 22) (q := 1) dX0_init_21 rfl rfl rfl ?_
  refine mv_getr (a := 20) (k := 0) (t := 1) (n' := 25) cl0 rfl (by decide) (by decide) rfl (by first | rfl | simp [mss, kS0, kS1, kS2, kS3, kS4, kS5, kS6, kS7]) rfl fl_X0_11 dX0_init_22 rfl ?_
  refine mv_iload_n (n' := 26) (q := 0) dX0_init_25 rfl rfl rfl ?_
  refine mv_new (n := 31) (n' := 29) cl6 tyX6_ok dv6 rfl hF11 ck_X0_9 it_X6 ini_X6 dX0_init_26 rfl ⟨Nat.le_of_ble_eq_true rfl, Nat.le_of_ble_eq_true rfl⟩ ?_
  have hF12 : mFr 32 (mss (kS6 (mss (kS6 (mss (kS6 (mss (S) 20 0) 22) 21 0) 25) 21 1) 28) 21 2) (kH6 (kH6 (kH6 (h) 22) 25) 28) := mFr_n hF11 (by decide)
  refine mv_dup (n' := 30) dX0_init_29 rfl rfl ?_
  refine mv_callIN (n' := 33) (k_6 g l 31 (mss (kS6 (mss (kS6 (mss (kS6 (mss (S) 20 0) 22) 21 0) 25) 21 1) 28) 21 2) (kH6 (kH6 (kH6 (h) 22) 25) 28) rfl rfl rfl (by decide) hF12) ok_X6_init rfl rfl ⟨Nat.le_of_ble_eq_true rfl, Nat.le_of_ble_eq_true rfl⟩ ⟨Nat.le_of_ble_eq_true rfl, Nat.le_of_ble_eq_true rfl⟩ ln_X0_17 im_X6_init dX0_init_30 rfl (Nat.le_of_ble_eq_true rfl) ?_
  have hF13 : mFr 34 (kS6 (mss (kS6 (mss (kS6 (mss (kS6 (mss (S) 20 0) 22) 21 0) 25) 21 1) 28) 21 2) 31) (kH6 (kH6 (kH6 (kH6 (h) 22) 25) 28) 31) := fr_6 (31) (mss (kS6 (mss (kS6 (mss (kS6 (mss (S) 20 0) 22) 21 0) 25) 21 1) 28) 21 2) (kH6 (kH6 (kH6 (h) 22) 25) 28) hF12
  refine mv_aast (a := 21) (j := 3) (b0 := 22) (N := 14) (n' := 34) (Or.inl ⟨rfl, rfl, rfl⟩) (by decide) (by decide) (by decide) rfl (by decide) (show ¬ ((3 : Int32) < 0 ∨ 14 ≤ (3 : Int32).toNatClampNeg) by decide) dX0_init_33 rfl ?_
  have hF14 : mFr 34 (mss (kS6 (mss (kS6 (mss (kS6 (mss (kS6 (mss (S) 20 0) 22) 21 0) 25) 21 1) 28) 21 2) 31) 21 3) (kH6 (kH6 (kH6 (kH6 (h) 22) 25) 28) 31) := mFr_s hF13 (by decide)
  refine mv_iinc (n' := 37) (q := 0) (v := 4) dX0_init_34 rfl rfl (by decide) (by decide) rfl ?_
  refine mv_goto (n' := 15) dX0_init_37 (by decide) ?_
  refine mv_iload_n (n' := 16) (q := 0) dX0_init_15 rfl rfl rfl ?_
  refine mv_bipush (n' := 18) (v := 14) dX0_init_16 rfl (by decide) ?_
  refine mv_ge_f (n' := 21) (t := 40) dX0_init_18 rfl (by decide) (by decide) ?_
  refine mv_aload_n (n' := 22) (q := 1) dX0_init_21 rfl rfl rfl ?_
  refine mv_getr (a := 20) (k := 0) (t := 1) (n' := 25) cl0 rfl (by decide) (by decide) rfl (by first | rfl | simp [mss, kS0, kS1, kS2, kS3, kS4, kS5, kS6, kS7]) rfl fl_X0_11 dX0_init_22 rfl ?_
  refine mv_iload_n (n' := 26) (q := 0) dX0_init_25 rfl rfl rfl ?_
  refine mv_new (n := 34) (n' := 29) cl6 tyX6_ok dv6 rfl hF14 ck_X0_9 it_X6 ini_X6 dX0_init_26 rfl ⟨Nat.le_of_ble_eq_true rfl, Nat.le_of_ble_eq_true rfl⟩ ?_
  have hF15 : mFr 35 (mss (kS6 (mss (kS6 (mss (kS6 (mss (kS6 (mss (S) 20 0) 22) 21 0) 25) 21 1) 28) 21 2) 31) 21 3) (kH6 (kH6 (kH6 (kH6 (h) 22) 25) 28) 31) := mFr_n hF14 (by decide)
  refine mv_dup (n' := 30) dX0_init_29 rfl rfl ?_
  refine mv_callIN (n' := 33) (k_6 g l 34 (mss (kS6 (mss (kS6 (mss (kS6 (mss (kS6 (mss (S) 20 0) 22) 21 0) 25) 21 1) 28) 21 2) 31) 21 3) (kH6 (kH6 (kH6 (kH6 (h) 22) 25) 28) 31) rfl rfl rfl (by decide) hF15) ok_X6_init rfl rfl ⟨Nat.le_of_ble_eq_true rfl, Nat.le_of_ble_eq_true rfl⟩ ⟨Nat.le_of_ble_eq_true rfl, Nat.le_of_ble_eq_true rfl⟩ ln_X0_17 im_X6_init dX0_init_30 rfl (Nat.le_of_ble_eq_true rfl) ?_
  have hF16 : mFr 37 (kS6 (mss (kS6 (mss (kS6 (mss (kS6 (mss (kS6 (mss (S) 20 0) 22) 21 0) 25) 21 1) 28) 21 2) 31) 21 3) 34) (kH6 (kH6 (kH6 (kH6 (kH6 (h) 22) 25) 28) 31) 34) := fr_6 (34) (mss (kS6 (mss (kS6 (mss (kS6 (mss (kS6 (mss (S) 20 0) 22) 21 0) 25) 21 1) 28) 21 2) 31) 21 3) (kH6 (kH6 (kH6 (kH6 (h) 22) 25) 28) 31) hF15
  refine mv_aast (a := 21) (j := 4) (b0 := 22) (N := 14) (n' := 34) (Or.inl ⟨rfl, rfl, rfl⟩) (by decide) (by decide) (by decide) rfl (by decide) (show ¬ ((4 : Int32) < 0 ∨ 14 ≤ (4 : Int32).toNatClampNeg) by decide) dX0_init_33 rfl ?_
  have hF17 : mFr 37 (mss (kS6 (mss (kS6 (mss (kS6 (mss (kS6 (mss (kS6 (mss (S) 20 0) 22) 21 0) 25) 21 1) 28) 21 2) 31) 21 3) 34) 21 4) (kH6 (kH6 (kH6 (kH6 (kH6 (h) 22) 25) 28) 31) 34) := mFr_s hF16 (by decide)
  refine mv_iinc (n' := 37) (q := 0) (v := 5) dX0_init_34 rfl rfl (by decide) (by decide) rfl ?_
  refine mv_goto (n' := 15) dX0_init_37 (by decide) ?_
  refine mv_iload_n (n' := 16) (q := 0) dX0_init_15 rfl rfl rfl ?_
  refine mv_bipush (n' := 18) (v := 14) dX0_init_16 rfl (by decide) ?_
  refine mv_ge_f (n' := 21) (t := 40) dX0_init_18 rfl (by decide) (by decide) ?_
  refine mv_aload_n (n' := 22) (q := 1) dX0_init_21 rfl rfl rfl ?_
  refine mv_getr (a := 20) (k := 0) (t := 1) (n' := 25) cl0 rfl (by decide) (by decide) rfl (by first | rfl | simp [mss, kS0, kS1, kS2, kS3, kS4, kS5, kS6, kS7]) rfl fl_X0_11 dX0_init_22 rfl ?_
  refine mv_iload_n (n' := 26) (q := 0) dX0_init_25 rfl rfl rfl ?_
  refine mv_new (n := 37) (n' := 29) cl6 tyX6_ok dv6 rfl hF17 ck_X0_9 it_X6 ini_X6 dX0_init_26 rfl ⟨Nat.le_of_ble_eq_true rfl, Nat.le_of_ble_eq_true rfl⟩ ?_
  have hF18 : mFr 38 (mss (kS6 (mss (kS6 (mss (kS6 (mss (kS6 (mss (kS6 (mss (S) 20 0) 22) 21 0) 25) 21 1) 28) 21 2) 31) 21 3) 34) 21 4) (kH6 (kH6 (kH6 (kH6 (kH6 (h) 22) 25) 28) 31) 34) := mFr_n hF17 (by decide)
  refine mv_dup (n' := 30) dX0_init_29 rfl rfl ?_
  refine mv_callIN (n' := 33) (k_6 g l 37 (mss (kS6 (mss (kS6 (mss (kS6 (mss (kS6 (mss (kS6 (mss (S) 20 0) 22) 21 0) 25) 21 1) 28) 21 2) 31) 21 3) 34) 21 4) (kH6 (kH6 (kH6 (kH6 (kH6 (h) 22) 25) 28) 31) 34) rfl rfl rfl (by decide) hF18) ok_X6_init rfl rfl ⟨Nat.le_of_ble_eq_true rfl, Nat.le_of_ble_eq_true rfl⟩ ⟨Nat.le_of_ble_eq_true rfl, Nat.le_of_ble_eq_true rfl⟩ ln_X0_17 im_X6_init dX0_init_30 rfl (Nat.le_of_ble_eq_true rfl) ?_
  have hF19 : mFr 40 (kS6 (mss (kS6 (mss (kS6 (mss (kS6 (mss (kS6 (mss (kS6 (mss (S) 20 0) 22) 21 0) 25) 21 1) 28) 21 2) 31) 21 3) 34) 21 4) 37) (kH6 (kH6 (kH6 (kH6 (kH6 (kH6 (h) 22) 25) 28) 31) 34) 37) := fr_6 (37) (mss (kS6 (mss (kS6 (mss (kS6 (mss (kS6 (mss (kS6 (mss (S) 20 0) 22) 21 0) 25) 21 1) 28) 21 2) 31) 21 3) 34) 21 4) (kH6 (kH6 (kH6 (kH6 (kH6 (h) 22) 25) 28) 31) 34) hF18
  refine mv_aast (a := 21) (j := 5) (b0 := 22) (N := 14) (n' := 34) (Or.inl ⟨rfl, rfl, rfl⟩) (by decide) (by decide) (by decide) rfl (by decide) (show ¬ ((5 : Int32) < 0 ∨ 14 ≤ (5 : Int32).toNatClampNeg) by decide) dX0_init_33 rfl ?_
  have hF20 : mFr 40 (mss (kS6 (mss (kS6 (mss (kS6 (mss (kS6 (mss (kS6 (mss (kS6 (mss (S) 20 0) 22) 21 0) 25) 21 1) 28) 21 2) 31) 21 3) 34) 21 4) 37) 21 5) (kH6 (kH6 (kH6 (kH6 (kH6 (kH6 (h) 22) 25) 28) 31) 34) 37) := mFr_s hF19 (by decide)
  refine mv_iinc (n' := 37) (q := 0) (v := 6) dX0_init_34 rfl rfl (by decide) (by decide) rfl ?_
  refine mv_goto (n' := 15) dX0_init_37 (by decide) ?_
  refine mv_iload_n (n' := 16) (q := 0) dX0_init_15 rfl rfl rfl ?_
  refine mv_bipush (n' := 18) (v := 14) dX0_init_16 rfl (by decide) ?_
  refine mv_ge_f (n' := 21) (t := 40) dX0_init_18 rfl (by decide) (by decide) ?_
  refine mv_aload_n (n' := 22) (q := 1) dX0_init_21 rfl rfl rfl ?_
  refine mv_getr (a := 20) (k := 0) (t := 1) (n' := 25) cl0 rfl (by decide) (by decide) rfl (by first | rfl | simp [mss, kS0, kS1, kS2, kS3, kS4, kS5, kS6, kS7]) rfl fl_X0_11 dX0_init_22 rfl ?_
  refine mv_iload_n (n' := 26) (q := 0) dX0_init_25 rfl rfl rfl ?_
  refine mv_new (n := 40) (n' := 29) cl6 tyX6_ok dv6 rfl hF20 ck_X0_9 it_X6 ini_X6 dX0_init_26 rfl ⟨Nat.le_of_ble_eq_true rfl, Nat.le_of_ble_eq_true rfl⟩ ?_
  have hF21 : mFr 41 (mss (kS6 (mss (kS6 (mss (kS6 (mss (kS6 (mss (kS6 (mss (kS6 (mss (S) 20 0) 22) 21 0) 25) 21 1) 28) 21 2) 31) 21 3) 34) 21 4) 37) 21 5) (kH6 (kH6 (kH6 (kH6 (kH6 (kH6 (h) 22) 25) 28) 31) 34) 37) := mFr_n hF20 (by decide)
  refine mv_dup (n' := 30) dX0_init_29 rfl rfl ?_
  refine mv_callIN (n' := 33) (k_6 g l 40 (mss (kS6 (mss (kS6 (mss (kS6 (mss (kS6 (mss (kS6 (mss (kS6 (mss (S) 20 0) 22) 21 0) 25) 21 1) 28) 21 2) 31) 21 3) 34) 21 4) 37) 21 5) (kH6 (kH6 (kH6 (kH6 (kH6 (kH6 (h) 22) 25) 28) 31) 34) 37) rfl rfl rfl (by decide) hF21) ok_X6_init rfl rfl ⟨Nat.le_of_ble_eq_true rfl, Nat.le_of_ble_eq_true rfl⟩ ⟨Nat.le_of_ble_eq_true rfl, Nat.le_of_ble_eq_true rfl⟩ ln_X0_17 im_X6_init dX0_init_30 rfl (Nat.le_of_ble_eq_true rfl) ?_
  have hF22 : mFr 43 (kS6 (mss (kS6 (mss (kS6 (mss (kS6 (mss (kS6 (mss (kS6 (mss (kS6 (mss (S) 20 0) 22) 21 0) 25) 21 1) 28) 21 2) 31) 21 3) 34) 21 4) 37) 21 5) 40) (kH6 (kH6 (kH6 (kH6 (kH6 (kH6 (kH6 (h) 22) 25) 28) 31) 34) 37) 40) := fr_6 (40) (mss (kS6 (mss (kS6 (mss (kS6 (mss (kS6 (mss (kS6 (mss (kS6 (mss (S) 20 0) 22) 21 0) 25) 21 1) 28) 21 2) 31) 21 3) 34) 21 4) 37) 21 5) (kH6 (kH6 (kH6 (kH6 (kH6 (kH6 (h) 22) 25) 28) 31) 34) 37) hF21
  refine mv_aast (a := 21) (j := 6) (b0 := 22) (N := 14) (n' := 34) (Or.inl ⟨rfl, rfl, rfl⟩) (by decide) (by decide) (by decide) rfl (by decide) (show ¬ ((6 : Int32) < 0 ∨ 14 ≤ (6 : Int32).toNatClampNeg) by decide) dX0_init_33 rfl ?_
  have hF23 : mFr 43 (mss (kS6 (mss (kS6 (mss (kS6 (mss (kS6 (mss (kS6 (mss (kS6 (mss (kS6 (mss (S) 20 0) 22) 21 0) 25) 21 1) 28) 21 2) 31) 21 3) 34) 21 4) 37) 21 5) 40) 21 6) (kH6 (kH6 (kH6 (kH6 (kH6 (kH6 (kH6 (h) 22) 25) 28) 31) 34) 37) 40) := mFr_s hF22 (by decide)
  refine mv_iinc (n' := 37) (q := 0) (v := 7) dX0_init_34 rfl rfl (by decide) (by decide) rfl ?_
  refine mv_goto (n' := 15) dX0_init_37 (by decide) ?_
  refine mv_iload_n (n' := 16) (q := 0) dX0_init_15 rfl rfl rfl ?_
  refine mv_bipush (n' := 18) (v := 14) dX0_init_16 rfl (by decide) ?_
  refine mv_ge_f (n' := 21) (t := 40) dX0_init_18 rfl (by decide) (by decide) ?_
  refine mv_aload_n (n' := 22) (q := 1) dX0_init_21 rfl rfl rfl ?_
  refine mv_getr (a := 20) (k := 0) (t := 1) (n' := 25) cl0 rfl (by decide) (by decide) rfl (by first | rfl | simp [mss, kS0, kS1, kS2, kS3, kS4, kS5, kS6, kS7]) rfl fl_X0_11 dX0_init_22 rfl ?_
  refine mv_iload_n (n' := 26) (q := 0) dX0_init_25 rfl rfl rfl ?_
  refine mv_new (n := 43) (n' := 29) cl6 tyX6_ok dv6 rfl hF23 ck_X0_9 it_X6 ini_X6 dX0_init_26 rfl ⟨Nat.le_of_ble_eq_true rfl, Nat.le_of_ble_eq_true rfl⟩ ?_
  have hF24 : mFr 44 (mss (kS6 (mss (kS6 (mss (kS6 (mss (kS6 (mss (kS6 (mss (kS6 (mss (kS6 (mss (S) 20 0) 22) 21 0) 25) 21 1) 28) 21 2) 31) 21 3) 34) 21 4) 37) 21 5) 40) 21 6) (kH6 (kH6 (kH6 (kH6 (kH6 (kH6 (kH6 (h) 22) 25) 28) 31) 34) 37) 40) := mFr_n hF23 (by decide)
  refine mv_dup (n' := 30) dX0_init_29 rfl rfl ?_
  refine mv_callIN (n' := 33) (k_6 g l 43 (mss (kS6 (mss (kS6 (mss (kS6 (mss (kS6 (mss (kS6 (mss (kS6 (mss (kS6 (mss (S) 20 0) 22) 21 0) 25) 21 1) 28) 21 2) 31) 21 3) 34) 21 4) 37) 21 5) 40) 21 6) (kH6 (kH6 (kH6 (kH6 (kH6 (kH6 (kH6 (h) 22) 25) 28) 31) 34) 37) 40) rfl rfl rfl (by decide) hF24) ok_X6_init rfl rfl ⟨Nat.le_of_ble_eq_true rfl, Nat.le_of_ble_eq_true rfl⟩ ⟨Nat.le_of_ble_eq_true rfl, Nat.le_of_ble_eq_true rfl⟩ ln_X0_17 im_X6_init dX0_init_30 rfl (Nat.le_of_ble_eq_true rfl) ?_
  have hF25 : mFr 46 (kS6 (mss (kS6 (mss (kS6 (mss (kS6 (mss (kS6 (mss (kS6 (mss (kS6 (mss (kS6 (mss (S) 20 0) 22) 21 0) 25) 21 1) 28) 21 2) 31) 21 3) 34) 21 4) 37) 21 5) 40) 21 6) 43) (kH6 (kH6 (kH6 (kH6 (kH6 (kH6 (kH6 (kH6 (h) 22) 25) 28) 31) 34) 37) 40) 43) := fr_6 (43) (mss (kS6 (mss (kS6 (mss (kS6 (mss (kS6 (mss (kS6 (mss (kS6 (mss (kS6 (mss (S) 20 0) 22) 21 0) 25) 21 1) 28) 21 2) 31) 21 3) 34) 21 4) 37) 21 5) 40) 21 6) (kH6 (kH6 (kH6 (kH6 (kH6 (kH6 (kH6 (h) 22) 25) 28) 31) 34) 37) 40) hF24
  refine mv_aast (a := 21) (j := 7) (b0 := 22) (N := 14) (n' := 34) (Or.inl ⟨rfl, rfl, rfl⟩) (by decide) (by decide) (by decide) rfl (by decide) (show ¬ ((7 : Int32) < 0 ∨ 14 ≤ (7 : Int32).toNatClampNeg) by decide) dX0_init_33 rfl ?_
  have hF26 : mFr 46 (mss (kS6 (mss (kS6 (mss (kS6 (mss (kS6 (mss (kS6 (mss (kS6 (mss (kS6 (mss (kS6 (mss (S) 20 0) 22) 21 0) 25) 21 1) 28) 21 2) 31) 21 3) 34) 21 4) 37) 21 5) 40) 21 6) 43) 21 7) (kH6 (kH6 (kH6 (kH6 (kH6 (kH6 (kH6 (kH6 (h) 22) 25) 28) 31) 34) 37) 40) 43) := mFr_s hF25 (by decide)
  refine mv_iinc (n' := 37) (q := 0) (v := 8) dX0_init_34 rfl rfl (by decide) (by decide) rfl ?_
  refine mv_goto (n' := 15) dX0_init_37 (by decide) ?_
  refine mv_iload_n (n' := 16) (q := 0) dX0_init_15 rfl rfl rfl ?_
  refine mv_bipush (n' := 18) (v := 14) dX0_init_16 rfl (by decide) ?_
  refine mv_ge_f (n' := 21) (t := 40) dX0_init_18 rfl (by decide) (by decide) ?_
  refine mv_aload_n (n' := 22) (q := 1) dX0_init_21 rfl rfl rfl ?_
  refine mv_getr (a := 20) (k := 0) (t := 1) (n' := 25) cl0 rfl (by decide) (by decide) rfl (by first | rfl | simp [mss, kS0, kS1, kS2, kS3, kS4, kS5, kS6, kS7]) rfl fl_X0_11 dX0_init_22 rfl ?_
  refine mv_iload_n (n' := 26) (q := 0) dX0_init_25 rfl rfl rfl ?_
  refine mv_new (n := 46) (n' := 29) cl6 tyX6_ok dv6 rfl hF26 ck_X0_9 it_X6 ini_X6 dX0_init_26 rfl ⟨Nat.le_of_ble_eq_true rfl, Nat.le_of_ble_eq_true rfl⟩ ?_
  have hF27 : mFr 47 (mss (kS6 (mss (kS6 (mss (kS6 (mss (kS6 (mss (kS6 (mss (kS6 (mss (kS6 (mss (kS6 (mss (S) 20 0) 22) 21 0) 25) 21 1) 28) 21 2) 31) 21 3) 34) 21 4) 37) 21 5) 40) 21 6) 43) 21 7) (kH6 (kH6 (kH6 (kH6 (kH6 (kH6 (kH6 (kH6 (h) 22) 25) 28) 31) 34) 37) 40) 43) := mFr_n hF26 (by decide)
  refine mv_dup (n' := 30) dX0_init_29 rfl rfl ?_
  refine mv_callIN (n' := 33) (k_6 g l 46 (mss (kS6 (mss (kS6 (mss (kS6 (mss (kS6 (mss (kS6 (mss (kS6 (mss (kS6 (mss (kS6 (mss (S) 20 0) 22) 21 0) 25) 21 1) 28) 21 2) 31) 21 3) 34) 21 4) 37) 21 5) 40) 21 6) 43) 21 7) (kH6 (kH6 (kH6 (kH6 (kH6 (kH6 (kH6 (kH6 (h) 22) 25) 28) 31) 34) 37) 40) 43) rfl rfl rfl (by decide) hF27) ok_X6_init rfl rfl ⟨Nat.le_of_ble_eq_true rfl, Nat.le_of_ble_eq_true rfl⟩ ⟨Nat.le_of_ble_eq_true rfl, Nat.le_of_ble_eq_true rfl⟩ ln_X0_17 im_X6_init dX0_init_30 rfl (Nat.le_of_ble_eq_true rfl) ?_
  have hF28 : mFr 49 (kS6 (mss (kS6 (mss (kS6 (mss (kS6 (mss (kS6 (mss (kS6 (mss (kS6 (mss (kS6 (mss (kS6 (mss (S) 20 0) 22) 21 0) 25) 21 1) 28) 21 2) 31) 21 3) 34) 21 4) 37) 21 5) 40) 21 6) 43) 21 7) 46) (kH6 (kH6 (kH6 (kH6 (kH6 (kH6 (kH6 (kH6 (kH6 (h) 22) 25) 28) 31) 34) 37) 40) 43) 46) := fr_6 (46) (mss (kS6 (mss (kS6 (mss (kS6 (mss (kS6 (mss (kS6 (mss (kS6 (mss (kS6 (mss (kS6 (mss (S) 20 0) 22) 21 0) 25) 21 1) 28) 21 2) 31) 21 3) 34) 21 4) 37) 21 5) 40) 21 6) 43) 21 7) (kH6 (kH6 (kH6 (kH6 (kH6 (kH6 (kH6 (kH6 (h) 22) 25) 28) 31) 34) 37) 40) 43) hF27
  refine mv_aast (a := 21) (j := 8) (b0 := 22) (N := 14) (n' := 34) (Or.inl ⟨rfl, rfl, rfl⟩) (by decide) (by decide) (by decide) rfl (by decide) (show ¬ ((8 : Int32) < 0 ∨ 14 ≤ (8 : Int32).toNatClampNeg) by decide) dX0_init_33 rfl ?_
  have hF29 : mFr 49 (mss (kS6 (mss (kS6 (mss (kS6 (mss (kS6 (mss (kS6 (mss (kS6 (mss (kS6 (mss (kS6 (mss (kS6 (mss (S) 20 0) 22) 21 0) 25) 21 1) 28) 21 2) 31) 21 3) 34) 21 4) 37) 21 5) 40) 21 6) 43) 21 7) 46) 21 8) (kH6 (kH6 (kH6 (kH6 (kH6 (kH6 (kH6 (kH6 (kH6 (h) 22) 25) 28) 31) 34) 37) 40) 43) 46) := mFr_s hF28 (by decide)
  refine mv_iinc (n' := 37) (q := 0) (v := 9) dX0_init_34 rfl rfl (by decide) (by decide) rfl ?_
  refine mv_goto (n' := 15) dX0_init_37 (by decide) ?_
  refine mv_iload_n (n' := 16) (q := 0) dX0_init_15 rfl rfl rfl ?_
  refine mv_bipush (n' := 18) (v := 14) dX0_init_16 rfl (by decide) ?_
  refine mv_ge_f (n' := 21) (t := 40) dX0_init_18 rfl (by decide) (by decide) ?_
  refine mv_aload_n (n' := 22) (q := 1) dX0_init_21 rfl rfl rfl ?_
  refine mv_getr (a := 20) (k := 0) (t := 1) (n' := 25) cl0 rfl (by decide) (by decide) rfl (by first | rfl | simp [mss, kS0, kS1, kS2, kS3, kS4, kS5, kS6, kS7]) rfl fl_X0_11 dX0_init_22 rfl ?_
  refine mv_iload_n (n' := 26) (q := 0) dX0_init_25 rfl rfl rfl ?_
  refine mv_new (n := 49) (n' := 29) cl6 tyX6_ok dv6 rfl hF29 ck_X0_9 it_X6 ini_X6 dX0_init_26 rfl ⟨Nat.le_of_ble_eq_true rfl, Nat.le_of_ble_eq_true rfl⟩ ?_
  have hF30 : mFr 50 (mss (kS6 (mss (kS6 (mss (kS6 (mss (kS6 (mss (kS6 (mss (kS6 (mss (kS6 (mss (kS6 (mss (kS6 (mss (S) 20 0) 22) 21 0) 25) 21 1) 28) 21 2) 31) 21 3) 34) 21 4) 37) 21 5) 40) 21 6) 43) 21 7) 46) 21 8) (kH6 (kH6 (kH6 (kH6 (kH6 (kH6 (kH6 (kH6 (kH6 (h) 22) 25) 28) 31) 34) 37) 40) 43) 46) := mFr_n hF29 (by decide)
  refine mv_dup (n' := 30) dX0_init_29 rfl rfl ?_
  refine mv_callIN (n' := 33) (k_6 g l 49 (mss (kS6 (mss (kS6 (mss (kS6 (mss (kS6 (mss (kS6 (mss (kS6 (mss (kS6 (mss (kS6 (mss (kS6 (mss (S) 20 0) 22) 21 0) 25) 21 1) 28) 21 2) 31) 21 3) 34) 21 4) 37) 21 5) 40) 21 6) 43) 21 7) 46) 21 8) (kH6 (kH6 (kH6 (kH6 (kH6 (kH6 (kH6 (kH6 (kH6 (h) 22) 25) 28) 31) 34) 37) 40) 43) 46) rfl rfl rfl (by decide) hF30) ok_X6_init rfl rfl ⟨Nat.le_of_ble_eq_true rfl, Nat.le_of_ble_eq_true rfl⟩ ⟨Nat.le_of_ble_eq_true rfl, Nat.le_of_ble_eq_true rfl⟩ ln_X0_17 im_X6_init dX0_init_30 rfl (Nat.le_of_ble_eq_true rfl) ?_
  have hF31 : mFr 52 (kS6 (mss (kS6 (mss (kS6 (mss (kS6 (mss (kS6 (mss (kS6 (mss (kS6 (mss (kS6 (mss (kS6 (mss (kS6 (mss (S) 20 0) 22) 21 0) 25) 21 1) 28) 21 2) 31) 21 3) 34) 21 4) 37) 21 5) 40) 21 6) 43) 21 7) 46) 21 8) 49) (kH6 (kH6 (kH6 (kH6 (kH6 (kH6 (kH6 (kH6 (kH6 (kH6 (h) 22) 25) 28) 31) 34) 37) 40) 43) 46) 49) := fr_6 (49) (mss (kS6 (mss (kS6 (mss (kS6 (mss (kS6 (mss (kS6 (mss (kS6 (mss (kS6 (mss (kS6 (mss (kS6 (mss (S) 20 0) 22) 21 0) 25) 21 1) 28) 21 2) 31) 21 3) 34) 21 4) 37) 21 5) 40) 21 6) 43) 21 7) 46) 21 8) (kH6 (kH6 (kH6 (kH6 (kH6 (kH6 (kH6 (kH6 (kH6 (h) 22) 25) 28) 31) 34) 37) 40) 43) 46) hF30
  refine mv_aast (a := 21) (j := 9) (b0 := 22) (N := 14) (n' := 34) (Or.inl ⟨rfl, rfl, rfl⟩) (by decide) (by decide) (by decide) rfl (by decide) (show ¬ ((9 : Int32) < 0 ∨ 14 ≤ (9 : Int32).toNatClampNeg) by decide) dX0_init_33 rfl ?_
  have hF32 : mFr 52 (mss (kS6 (mss (kS6 (mss (kS6 (mss (kS6 (mss (kS6 (mss (kS6 (mss (kS6 (mss (kS6 (mss (kS6 (mss (kS6 (mss (S) 20 0) 22) 21 0) 25) 21 1) 28) 21 2) 31) 21 3) 34) 21 4) 37) 21 5) 40) 21 6) 43) 21 7) 46) 21 8) 49) 21 9) (kH6 (kH6 (kH6 (kH6 (kH6 (kH6 (kH6 (kH6 (kH6 (kH6 (h) 22) 25) 28) 31) 34) 37) 40) 43) 46) 49) := mFr_s hF31 (by decide)
  refine mv_iinc (n' := 37) (q := 0) (v := 10) dX0_init_34 rfl rfl (by decide) (by decide) rfl ?_
  refine mv_goto (n' := 15) dX0_init_37 (by decide) ?_
  refine mv_iload_n (n' := 16) (q := 0) dX0_init_15 rfl rfl rfl ?_
  refine mv_bipush (n' := 18) (v := 14) dX0_init_16 rfl (by decide) ?_
  refine mv_ge_f (n' := 21) (t := 40) dX0_init_18 rfl (by decide) (by decide) ?_
  refine mv_aload_n (n' := 22) (q := 1) dX0_init_21 rfl rfl rfl ?_
  refine mv_getr (a := 20) (k := 0) (t := 1) (n' := 25) cl0 rfl (by decide) (by decide) rfl (by first | rfl | simp [mss, kS0, kS1, kS2, kS3, kS4, kS5, kS6, kS7]) rfl fl_X0_11 dX0_init_22 rfl ?_
  refine mv_iload_n (n' := 26) (q := 0) dX0_init_25 rfl rfl rfl ?_
  refine mv_new (n := 52) (n' := 29) cl6 tyX6_ok dv6 rfl hF32 ck_X0_9 it_X6 ini_X6 dX0_init_26 rfl ⟨Nat.le_of_ble_eq_true rfl, Nat.le_of_ble_eq_true rfl⟩ ?_
  have hF33 : mFr 53 (mss (kS6 (mss (kS6 (mss (kS6 (mss (kS6 (mss (kS6 (mss (kS6 (mss (kS6 (mss (kS6 (mss (kS6 (mss (kS6 (mss (S) 20 0) 22) 21 0) 25) 21 1) 28) 21 2) 31) 21 3) 34) 21 4) 37) 21 5) 40) 21 6) 43) 21 7) 46) 21 8) 49) 21 9) (kH6 (kH6 (kH6 (kH6 (kH6 (kH6 (kH6 (kH6 (kH6 (kH6 (h) 22) 25) 28) 31) 34) 37) 40) 43) 46) 49) := mFr_n hF32 (by decide)
  refine mv_dup (n' := 30) dX0_init_29 rfl rfl ?_
  refine mv_callIN (n' := 33) (k_6 g l 52 (mss (kS6 (mss (kS6 (mss (kS6 (mss (kS6 (mss (kS6 (mss (kS6 (mss (kS6 (mss (kS6 (mss (kS6 (mss (kS6 (mss (S) 20 0) 22) 21 0) 25) 21 1) 28) 21 2) 31) 21 3) 34) 21 4) 37) 21 5) 40) 21 6) 43) 21 7) 46) 21 8) 49) 21 9) (kH6 (kH6 (kH6 (kH6 (kH6 (kH6 (kH6 (kH6 (kH6 (kH6 (h) 22) 25) 28) 31) 34) 37) 40) 43) 46) 49) rfl rfl rfl (by decide) hF33) ok_X6_init rfl rfl ⟨Nat.le_of_ble_eq_true rfl, Nat.le_of_ble_eq_true rfl⟩ ⟨Nat.le_of_ble_eq_true rfl, Nat.le_of_ble_eq_true rfl⟩ ln_X0_17 im_X6_init dX0_init_30 rfl (Nat.le_of_ble_eq_true rfl) ?_
  have hF34 : mFr 55 (kS6 (mss (kS6 (mss (kS6 (mss (kS6 (mss (kS6 (mss (kS6 (mss (kS6 (mss (kS6 (mss (kS6 (mss (kS6 (mss (kS6 (mss (S) 20 0) 22) 21 0) 25) 21 1) 28) 21 2) 31) 21 3) 34) 21 4) 37) 21 5) 40) 21 6) 43) 21 7) 46) 21 8) 49) 21 9) 52) (kH6 (kH6 (kH6 (kH6 (kH6 (kH6 (kH6 (kH6 (kH6 (kH6 (kH6 (h) 22) 25) 28) 31) 34) 37) 40) 43) 46) 49) 52) := fr_6 (52) (mss (kS6 (mss (kS6 (mss (kS6 (mss (kS6 (mss (kS6 (mss (kS6 (mss (kS6 (mss (kS6 (mss (kS6 (mss (kS6 (mss (S) 20 0) 22) 21 0) 25) 21 1) 28) 21 2) 31) 21 3) 34) 21 4) 37) 21 5) 40) 21 6) 43) 21 7) 46) 21 8) 49) 21 9) (kH6 (kH6 (kH6 (kH6 (kH6 (kH6 (kH6 (kH6 (kH6 (kH6 (h) 22) 25) 28) 31) 34) 37) 40) 43) 46) 49) hF33
  refine mv_aast (a := 21) (j := 10) (b0 := 22) (N := 14) (n' := 34) (Or.inl ⟨rfl, rfl, rfl⟩) (by decide) (by decide) (by decide) rfl (by decide) (show ¬ ((10 : Int32) < 0 ∨ 14 ≤ (10 : Int32).toNatClampNeg) by decide) dX0_init_33 rfl ?_
  have hF35 : mFr 55 (mss (kS6 (mss (kS6 (mss (kS6 (mss (kS6 (mss (kS6 (mss (kS6 (mss (kS6 (mss (kS6 (mss (kS6 (mss (kS6 (mss (kS6 (mss (S) 20 0) 22) 21 0) 25) 21 1) 28) 21 2) 31) 21 3) 34) 21 4) 37) 21 5) 40) 21 6) 43) 21 7) 46) 21 8) 49) 21 9) 52) 21 10) (kH6 (kH6 (kH6 (kH6 (kH6 (kH6 (kH6 (kH6 (kH6 (kH6 (kH6 (h) 22) 25) 28) 31) 34) 37) 40) 43) 46) 49) 52) := mFr_s hF34 (by decide)
  refine mv_iinc (n' := 37) (q := 0) (v := 11) dX0_init_34 rfl rfl (by decide) (by decide) rfl ?_
  refine mv_goto (n' := 15) dX0_init_37 (by decide) ?_
  refine mv_iload_n (n' := 16) (q := 0) dX0_init_15 rfl rfl rfl ?_
  refine mv_bipush (n' := 18) (v := 14) dX0_init_16 rfl (by decide) ?_
  refine mv_ge_f (n' := 21) (t := 40) dX0_init_18 rfl (by decide) (by decide) ?_
  refine mv_aload_n (n' := 22) (q := 1) dX0_init_21 rfl rfl rfl ?_
  refine mv_getr (a := 20) (k := 0) (t := 1) (n' := 25) cl0 rfl (by decide) (by decide) rfl (by first | rfl | simp [mss, kS0, kS1, kS2, kS3, kS4, kS5, kS6, kS7]) rfl fl_X0_11 dX0_init_22 rfl ?_
  refine mv_iload_n (n' := 26) (q := 0) dX0_init_25 rfl rfl rfl ?_
  refine mv_new (n := 55) (n' := 29) cl6 tyX6_ok dv6 rfl hF35 ck_X0_9 it_X6 ini_X6 dX0_init_26 rfl ⟨Nat.le_of_ble_eq_true rfl, Nat.le_of_ble_eq_true rfl⟩ ?_
  have hF36 : mFr 56 (mss (kS6 (mss (kS6 (mss (kS6 (mss (kS6 (mss (kS6 (mss (kS6 (mss (kS6 (mss (kS6 (mss (kS6 (mss (kS6 (mss (kS6 (mss (S) 20 0) 22) 21 0) 25) 21 1) 28) 21 2) 31) 21 3) 34) 21 4) 37) 21 5) 40) 21 6) 43) 21 7) 46) 21 8) 49) 21 9) 52) 21 10) (kH6 (kH6 (kH6 (kH6 (kH6 (kH6 (kH6 (kH6 (kH6 (kH6 (kH6 (h) 22) 25) 28) 31) 34) 37) 40) 43) 46) 49) 52) := mFr_n hF35 (by decide)
  refine mv_dup (n' := 30) dX0_init_29 rfl rfl ?_
  refine mv_callIN (n' := 33) (k_6 g l 55 (mss (kS6 (mss (kS6 (mss (kS6 (mss (kS6 (mss (kS6 (mss (kS6 (mss (kS6 (mss (kS6 (mss (kS6 (mss (kS6 (mss (kS6 (mss (S) 20 0) 22) 21 0) 25) 21 1) 28) 21 2) 31) 21 3) 34) 21 4) 37) 21 5) 40) 21 6) 43) 21 7) 46) 21 8) 49) 21 9) 52) 21 10) (kH6 (kH6 (kH6 (kH6 (kH6 (kH6 (kH6 (kH6 (kH6 (kH6 (kH6 (h) 22) 25) 28) 31) 34) 37) 40) 43) 46) 49) 52) rfl rfl rfl (by decide) hF36) ok_X6_init rfl rfl ⟨Nat.le_of_ble_eq_true rfl, Nat.le_of_ble_eq_true rfl⟩ ⟨Nat.le_of_ble_eq_true rfl, Nat.le_of_ble_eq_true rfl⟩ ln_X0_17 im_X6_init dX0_init_30 rfl (Nat.le_of_ble_eq_true rfl) ?_
  have hF37 : mFr 58 (kS6 (mss (kS6 (mss (kS6 (mss (kS6 (mss (kS6 (mss (kS6 (mss (kS6 (mss (kS6 (mss (kS6 (mss (kS6 (mss (kS6 (mss (kS6 (mss (S) 20 0) 22) 21 0) 25) 21 1) 28) 21 2) 31) 21 3) 34) 21 4) 37) 21 5) 40) 21 6) 43) 21 7) 46) 21 8) 49) 21 9) 52) 21 10) 55) (kH6 (kH6 (kH6 (kH6 (kH6 (kH6 (kH6 (kH6 (kH6 (kH6 (kH6 (kH6 (h) 22) 25) 28) 31) 34) 37) 40) 43) 46) 49) 52) 55) := fr_6 (55) (mss (kS6 (mss (kS6 (mss (kS6 (mss (kS6 (mss (kS6 (mss (kS6 (mss (kS6 (mss (kS6 (mss (kS6 (mss (kS6 (mss (kS6 (mss (S) 20 0) 22) 21 0) 25) 21 1) 28) 21 2) 31) 21 3) 34) 21 4) 37) 21 5) 40) 21 6) 43) 21 7) 46) 21 8) 49) 21 9) 52) 21 10) (kH6 (kH6 (kH6 (kH6 (kH6 (kH6 (kH6 (kH6 (kH6 (kH6 (kH6 (h) 22) 25) 28) 31) 34) 37) 40) 43) 46) 49) 52) hF36
  refine mv_aast (a := 21) (j := 11) (b0 := 22) (N := 14) (n' := 34) (Or.inl ⟨rfl, rfl, rfl⟩) (by decide) (by decide) (by decide) rfl (by decide) (show ¬ ((11 : Int32) < 0 ∨ 14 ≤ (11 : Int32).toNatClampNeg) by decide) dX0_init_33 rfl ?_
  have hF38 : mFr 58 (mss (kS6 (mss (kS6 (mss (kS6 (mss (kS6 (mss (kS6 (mss (kS6 (mss (kS6 (mss (kS6 (mss (kS6 (mss (kS6 (mss (kS6 (mss (kS6 (mss (S) 20 0) 22) 21 0) 25) 21 1) 28) 21 2) 31) 21 3) 34) 21 4) 37) 21 5) 40) 21 6) 43) 21 7) 46) 21 8) 49) 21 9) 52) 21 10) 55) 21 11) (kH6 (kH6 (kH6 (kH6 (kH6 (kH6 (kH6 (kH6 (kH6 (kH6 (kH6 (kH6 (h) 22) 25) 28) 31) 34) 37) 40) 43) 46) 49) 52) 55) := mFr_s hF37 (by decide)
  refine mv_iinc (n' := 37) (q := 0) (v := 12) dX0_init_34 rfl rfl (by decide) (by decide) rfl ?_
  refine mv_goto (n' := 15) dX0_init_37 (by decide) ?_
  refine mv_iload_n (n' := 16) (q := 0) dX0_init_15 rfl rfl rfl ?_
  refine mv_bipush (n' := 18) (v := 14) dX0_init_16 rfl (by decide) ?_
  refine mv_ge_f (n' := 21) (t := 40) dX0_init_18 rfl (by decide) (by decide) ?_
  refine mv_aload_n (n' := 22) (q := 1) dX0_init_21 rfl rfl rfl ?_
  refine mv_getr (a := 20) (k := 0) (t := 1) (n' := 25) cl0 rfl (by decide) (by decide) rfl (by first | rfl | simp [mss, kS0, kS1, kS2, kS3, kS4, kS5, kS6, kS7]) rfl fl_X0_11 dX0_init_22 rfl ?_
  refine mv_iload_n (n' := 26) (q := 0) dX0_init_25 rfl rfl rfl ?_
  refine mv_new (n := 58) (n' := 29) cl6 tyX6_ok dv6 rfl hF38 ck_X0_9 it_X6 ini_X6 dX0_init_26 rfl ⟨Nat.le_of_ble_eq_true rfl, Nat.le_of_ble_eq_true rfl⟩ ?_
  have hF39 : mFr 59 (mss (kS6 (mss (kS6 (mss (kS6 (mss (kS6 (mss (kS6 (mss (kS6 (mss (kS6 (mss (kS6 (mss (kS6 (mss (kS6 (mss (kS6 (mss (kS6 (mss (S) 20 0) 22) 21 0) 25) 21 1) 28) 21 2) 31) 21 3) 34) 21 4) 37) 21 5) 40) 21 6) 43) 21 7) 46) 21 8) 49) 21 9) 52) 21 10) 55) 21 11) (kH6 (kH6 (kH6 (kH6 (kH6 (kH6 (kH6 (kH6 (kH6 (kH6 (kH6 (kH6 (h) 22) 25) 28) 31) 34) 37) 40) 43) 46) 49) 52) 55) := mFr_n hF38 (by decide)
  refine mv_dup (n' := 30) dX0_init_29 rfl rfl ?_
  refine mv_callIN (n' := 33) (k_6 g l 58 (mss (kS6 (mss (kS6 (mss (kS6 (mss (kS6 (mss (kS6 (mss (kS6 (mss (kS6 (mss (kS6 (mss (kS6 (mss (kS6 (mss (kS6 (mss (kS6 (mss (S) 20 0) 22) 21 0) 25) 21 1) 28) 21 2) 31) 21 3) 34) 21 4) 37) 21 5) 40) 21 6) 43) 21 7) 46) 21 8) 49) 21 9) 52) 21 10) 55) 21 11) (kH6 (kH6 (kH6 (kH6 (kH6 (kH6 (kH6 (kH6 (kH6 (kH6 (kH6 (kH6 (h) 22) 25) 28) 31) 34) 37) 40) 43) 46) 49) 52) 55) rfl rfl rfl (by decide) hF39) ok_X6_init rfl rfl ⟨Nat.le_of_ble_eq_true rfl, Nat.le_of_ble_eq_true rfl⟩ ⟨Nat.le_of_ble_eq_true rfl, Nat.le_of_ble_eq_true rfl⟩ ln_X0_17 im_X6_init dX0_init_30 rfl (Nat.le_of_ble_eq_true rfl) ?_
  have hF40 : mFr 61 (kS6 (mss (kS6 (mss (kS6 (mss (kS6 (mss (kS6 (mss (kS6 (mss (kS6 (mss (kS6 (mss (kS6 (mss (kS6 (mss (kS6 (mss (kS6 (mss (kS6 (mss (S) 20 0) 22) 21 0) 25) 21 1) 28) 21 2) 31) 21 3) 34) 21 4) 37) 21 5) 40) 21 6) 43) 21 7) 46) 21 8) 49) 21 9) 52) 21 10) 55) 21 11) 58) (kH6 (kH6 (kH6 (kH6 (kH6 (kH6 (kH6 (kH6 (kH6 (kH6 (kH6 (kH6 (kH6 (h) 22) 25) 28) 31) 34) 37) 40) 43) 46) 49) 52) 55) 58) := fr_6 (58) (mss (kS6 (mss (kS6 (mss (kS6 (mss (kS6 (mss (kS6 (mss (kS6 (mss (kS6 (mss (kS6 (mss (kS6 (mss (kS6 (mss (kS6 (mss (kS6 (mss (S) 20 0) 22) 21 0) 25) 21 1) 28) 21 2) 31) 21 3) 34) 21 4) 37) 21 5) 40) 21 6) 43) 21 7) 46) 21 8) 49) 21 9) 52) 21 10) 55) 21 11) (kH6 (kH6 (kH6 (kH6 (kH6 (kH6 (kH6 (kH6 (kH6 (kH6 (kH6 (kH6 (h) 22) 25) 28) 31) 34) 37) 40) 43) 46) 49) 52) 55) hF39
  refine mv_aast (a := 21) (j := 12) (b0 := 22) (N := 14) (n' := 34) (Or.inl ⟨rfl, rfl, rfl⟩) (by decide) (by decide) (by decide) rfl (by decide) (show ¬ ((12 : Int32) < 0 ∨ 14 ≤ (12 : Int32).toNatClampNeg) by decide) dX0_init_33 rfl ?_
  have hF41 : mFr 61 (mss (kS6 (mss (kS6 (mss (kS6 (mss (kS6 (mss (kS6 (mss (kS6 (mss (kS6 (mss (kS6 (mss (kS6 (mss (kS6 (mss (kS6 (mss (kS6 (mss (kS6 (mss (S) 20 0) 22) 21 0) 25) 21 1) 28) 21 2) 31) 21 3) 34) 21 4) 37) 21 5) 40) 21 6) 43) 21 7) 46) 21 8) 49) 21 9) 52) 21 10) 55) 21 11) 58) 21 12) (kH6 (kH6 (kH6 (kH6 (kH6 (kH6 (kH6 (kH6 (kH6 (kH6 (kH6 (kH6 (kH6 (h) 22) 25) 28) 31) 34) 37) 40) 43) 46) 49) 52) 55) 58) := mFr_s hF40 (by decide)
  refine mv_iinc (n' := 37) (q := 0) (v := 13) dX0_init_34 rfl rfl (by decide) (by decide) rfl ?_
  refine mv_goto (n' := 15) dX0_init_37 (by decide) ?_
  refine mv_iload_n (n' := 16) (q := 0) dX0_init_15 rfl rfl rfl ?_
  refine mv_bipush (n' := 18) (v := 14) dX0_init_16 rfl (by decide) ?_
  refine mv_ge_f (n' := 21) (t := 40) dX0_init_18 rfl (by decide) (by decide) ?_
  refine mv_aload_n (n' := 22) (q := 1) dX0_init_21 rfl rfl rfl ?_
  refine mv_getr (a := 20) (k := 0) (t := 1) (n' := 25) cl0 rfl (by decide) (by decide) rfl (by first | rfl | simp [mss, kS0, kS1, kS2, kS3, kS4, kS5, kS6, kS7]) rfl fl_X0_11 dX0_init_22 rfl ?_
  refine mv_iload_n (n' := 26) (q := 0) dX0_init_25 rfl rfl rfl ?_
  refine mv_new (n := 61) (n' := 29) cl6 tyX6_ok dv6 rfl hF41 ck_X0_9 it_X6 ini_X6 dX0_init_26 rfl ⟨Nat.le_of_ble_eq_true rfl, Nat.le_of_ble_eq_true rfl⟩ ?_
  have hF42 : mFr 62 (mss (kS6 (mss (kS6 (mss (kS6 (mss (kS6 (mss (kS6 (mss (kS6 (mss (kS6 (mss (kS6 (mss (kS6 (mss (kS6 (mss (kS6 (mss (kS6 (mss (kS6 (mss (S) 20 0) 22) 21 0) 25) 21 1) 28) 21 2) 31) 21 3) 34) 21 4) 37) 21 5) 40) 21 6) 43) 21 7) 46) 21 8) 49) 21 9) 52) 21 10) 55) 21 11) 58) 21 12) (kH6 (kH6 (kH6 (kH6 (kH6 (kH6 (kH6 (kH6 (kH6 (kH6 (kH6 (kH6 (kH6 (h) 22) 25) 28) 31) 34) 37) 40) 43) 46) 49) 52) 55) 58) := mFr_n hF41 (by decide)
  refine mv_dup (n' := 30) dX0_init_29 rfl rfl ?_
  refine mv_callIN (n' := 33) (k_6 g l 61 (mss (kS6 (mss (kS6 (mss (kS6 (mss (kS6 (mss (kS6 (mss (kS6 (mss (kS6 (mss (kS6 (mss (kS6 (mss (kS6 (mss (kS6 (mss (kS6 (mss (kS6 (mss (S) 20 0) 22) 21 0) 25) 21 1) 28) 21 2) 31) 21 3) 34) 21 4) 37) 21 5) 40) 21 6) 43) 21 7) 46) 21 8) 49) 21 9) 52) 21 10) 55) 21 11) 58) 21 12) (kH6 (kH6 (kH6 (kH6 (kH6 (kH6 (kH6 (kH6 (kH6 (kH6 (kH6 (kH6 (kH6 (h) 22) 25) 28) 31) 34) 37) 40) 43) 46) 49) 52) 55) 58) rfl rfl rfl (by decide) hF42) ok_X6_init rfl rfl ⟨Nat.le_of_ble_eq_true rfl, Nat.le_of_ble_eq_true rfl⟩ ⟨Nat.le_of_ble_eq_true rfl, Nat.le_of_ble_eq_true rfl⟩ ln_X0_17 im_X6_init dX0_init_30 rfl (Nat.le_of_ble_eq_true rfl) ?_
  have hF43 : mFr 64 (kS6 (mss (kS6 (mss (kS6 (mss (kS6 (mss (kS6 (mss (kS6 (mss (kS6 (mss (kS6 (mss (kS6 (mss (kS6 (mss (kS6 (mss (kS6 (mss (kS6 (mss (kS6 (mss (S) 20 0) 22) 21 0) 25) 21 1) 28) 21 2) 31) 21 3) 34) 21 4) 37) 21 5) 40) 21 6) 43) 21 7) 46) 21 8) 49) 21 9) 52) 21 10) 55) 21 11) 58) 21 12) 61) (kH6 (kH6 (kH6 (kH6 (kH6 (kH6 (kH6 (kH6 (kH6 (kH6 (kH6 (kH6 (kH6 (kH6 (h) 22) 25) 28) 31) 34) 37) 40) 43) 46) 49) 52) 55) 58) 61) := fr_6 (61) (mss (kS6 (mss (kS6 (mss (kS6 (mss (kS6 (mss (kS6 (mss (kS6 (mss (kS6 (mss (kS6 (mss (kS6 (mss (kS6 (mss (kS6 (mss (kS6 (mss (kS6 (mss (S) 20 0) 22) 21 0) 25) 21 1) 28) 21 2) 31) 21 3) 34) 21 4) 37) 21 5) 40) 21 6) 43) 21 7) 46) 21 8) 49) 21 9) 52) 21 10) 55) 21 11) 58) 21 12) (kH6 (kH6 (kH6 (kH6 (kH6 (kH6 (kH6 (kH6 (kH6 (kH6 (kH6 (kH6 (kH6 (h) 22) 25) 28) 31) 34) 37) 40) 43) 46) 49) 52) 55) 58) hF42
  refine mv_aast (a := 21) (j := 13) (b0 := 22) (N := 14) (n' := 34) (Or.inl ⟨rfl, rfl, rfl⟩) (by decide) (by decide) (by decide) rfl (by decide) (show ¬ ((13 : Int32) < 0 ∨ 14 ≤ (13 : Int32).toNatClampNeg) by decide) dX0_init_33 rfl ?_
  have hF44 : mFr 64 (mss (kS6 (mss (kS6 (mss (kS6 (mss (kS6 (mss (kS6 (mss (kS6 (mss (kS6 (mss (kS6 (mss (kS6 (mss (kS6 (mss (kS6 (mss (kS6 (mss (kS6 (mss (kS6 (mss (S) 20 0) 22) 21 0) 25) 21 1) 28) 21 2) 31) 21 3) 34) 21 4) 37) 21 5) 40) 21 6) 43) 21 7) 46) 21 8) 49) 21 9) 52) 21 10) 55) 21 11) 58) 21 12) 61) 21 13) (kH6 (kH6 (kH6 (kH6 (kH6 (kH6 (kH6 (kH6 (kH6 (kH6 (kH6 (kH6 (kH6 (kH6 (h) 22) 25) 28) 31) 34) 37) 40) 43) 46) 49) 52) 55) 58) 61) := mFr_s hF43 (by decide)
  refine mv_iinc (n' := 37) (q := 0) (v := 14) dX0_init_34 rfl rfl (by decide) (by decide) rfl ?_
  refine mv_goto (n' := 15) dX0_init_37 (by decide) ?_
  refine mv_iload_n (n' := 16) (q := 0) dX0_init_15 rfl rfl rfl ?_
  refine mv_bipush (n' := 18) (v := 14) dX0_init_16 rfl (by decide) ?_
  refine mv_ge_t (t := 40) dX0_init_18 (by decide) (by decide) ?_
  exact mv_ret dX0_init_40 rfl
def kS3 (S : mB) : mB := mss (mss (S) 64 0) 64 1
def kH3 (h : mH) : mH := h
theorem fr_3 (S : mB) (h : mH) (hF : mFr 65 S h) : mFr 67 (kS3 S) (kH3 h) := by
  have hF1 : mFr 66 (S) (h) := mFr_n hF (by decide)
  have hF2 : mFr 66 (mss (S) 64 0) (h) := mFr_s hF1 (by decide)
  have hF3 : mFr 67 (mss (S) 64 0) (h) := mFr_n hF2 (by decide)
  have hF4 : mFr 67 (mss (mss (S) 64 0) 64 1) (h) := mFr_s hF3 (by decide)
  exact hF4
set_option maxRecDepth 20000 in
set_option maxHeartbeats 4000000 in
theorem k_3 (g : mG) (l : Launch) (S : mB) (h : mH) (hF : mFr 65 S h) : mcn g l 0 mX3_init 64 65 S h 67 (kS3 S) (kH3 h) 2 9 := by
  refine mcn_of (by decide) rfl (by decide) ?_
  refine mv_aload_n (n' := 1) (q := 0) dX3_init_0 rfl rfl rfl ?_
  refine mv_objInit (n' := 4) lo_X3_3 oi_im oi_code dX3_init_1 rfl ⟨Nat.le_of_ble_eq_true rfl, Nat.le_of_ble_eq_true rfl⟩ ?_
  refine mv_aload_n (n' := 5) (q := 0) dX3_init_4 rfl rfl rfl ?_
  refine mv_iconst (n' := 6) (v := 4) dX3_init_5 rfl (by decide) ?_
  refine mv_newI (n := 65) (N := 4) (n' := 8) rfl (by decide) (by decide) (by decide) hF ac_int dX3_init_6 rfl ⟨Nat.le_of_ble_eq_true rfl, Nat.le_of_ble_eq_true rfl⟩ ?_
  have hF1 : mFr 66 (S) (h) := mFr_n hF (by decide)
  refine mv_putr (a := 64) (k := 0) (t := 1) (n' := 11) cl3 tyX3_ok nmX3 rfl (by decide) (by decide) (by decide) rfl rfl rfl rfl ⟨rfl, rfl⟩ fl_X3_9 dX3_init_8 rfl ?_
  have hF2 : mFr 66 (mss (S) 64 0) (h) := mFr_s hF1 (by decide)
  refine mv_aload_n (n' := 12) (q := 0) dX3_init_11 rfl rfl rfl ?_
  refine mv_iconst (n' := 13) (v := 5) dX3_init_12 rfl (by decide) ?_
  refine mv_newI (n := 66) (N := 5) (n' := 15) rfl (by decide) (by decide) (by decide) hF2 ac_int dX3_init_13 rfl ⟨Nat.le_of_ble_eq_true rfl, Nat.le_of_ble_eq_true rfl⟩ ?_
  have hF3 : mFr 67 (mss (S) 64 0) (h) := mFr_n hF2 (by decide)
  refine mv_putr (a := 64) (k := 1) (t := 2) (n' := 18) cl3 tyX3_ok nmX3 rfl (by decide) (by decide) (by decide) rfl rfl rfl rfl ⟨rfl, rfl⟩ fl_X3_15 dX3_init_15 rfl ?_
  have hF4 : mFr 67 (mss (mss (S) 64 0) 64 1) (h) := mFr_s hF3 (by decide)
  exact mv_ret dX3_init_18 rfl
def kS7 (S : mB) : mB := mss (mss (S) 67 0) 67 1
def kH7 (h : mH) : mH := msi (msi (h) 67 3 (-9)) 67 4 (-1)
theorem fr_7 (S : mB) (h : mH) (hF : mFr 68 S h) : mFr 70 (kS7 S) (kH7 h) := by
  have hF1 : mFr 69 (S) (h) := mFr_n hF (by decide)
  have hF2 : mFr 69 (mss (S) 67 0) (h) := mFr_s hF1 (by decide)
  have hF3 : mFr 70 (mss (S) 67 0) (h) := mFr_n hF2 (by decide)
  have hF4 : mFr 70 (mss (mss (S) 67 0) 67 1) (h) := mFr_s hF3 (by decide)
  have hF5 : mFr 70 (mss (mss (S) 67 0) 67 1) (msi (h) 67 3 (-9)) := mFr_i hF4 (by decide)
  have hF6 : mFr 70 (mss (mss (S) 67 0) 67 1) (msi (msi (h) 67 3 (-9)) 67 4 (-1)) := mFr_i hF5 (by decide)
  exact hF6
set_option maxRecDepth 20000 in
set_option maxHeartbeats 4000000 in
theorem k_7 (g : mG) (l : Launch) (S : mB) (h : mH) (hF : mFr 68 S h) : mcn g l 0 mX7_init 67 68 S h 70 (kS7 S) (kH7 h) 2 620 := by
  refine mcn_of (by decide) rfl (by decide) ?_
  refine mv_aload_n (n' := 1) (q := 0) dX7_init_0 rfl rfl rfl ?_
  refine mv_objInit (n' := 4) lo_X7_3 oi_im oi_code dX7_init_1 rfl ⟨Nat.le_of_ble_eq_true rfl, Nat.le_of_ble_eq_true rfl⟩ ?_
  refine mv_aload_n (n' := 5) (q := 0) dX7_init_4 rfl rfl rfl ?_
  refine mv_sipush (n' := 8) (v := 310) dX7_init_5 rfl (by decide) ?_
  refine mv_newI (n := 68) (N := 310) (n' := 10) rfl (by decide) (by decide) (by decide) hF ac_int dX7_init_8 rfl ⟨Nat.le_of_ble_eq_true rfl, Nat.le_of_ble_eq_true rfl⟩ ?_
  have hF1 : mFr 69 (S) (h) := mFr_n hF (by decide)
  refine mv_putr (a := 67) (k := 0) (t := 1) (n' := 13) cl7 tyX7_ok nmX7 rfl (by decide) (by decide) (by decide) rfl rfl rfl rfl ⟨rfl, rfl⟩ fl_X7_9 dX7_init_10 rfl ?_
  have hF2 : mFr 69 (mss (S) 67 0) (h) := mFr_s hF1 (by decide)
  refine mv_aload_n (n' := 14) (q := 0) dX7_init_13 rfl rfl rfl ?_
  refine mv_sipush (n' := 17) (v := 310) dX7_init_14 rfl (by decide) ?_
  refine mv_newI (n := 69) (N := 310) (n' := 19) rfl (by decide) (by decide) (by decide) hF2 ac_int dX7_init_17 rfl ⟨Nat.le_of_ble_eq_true rfl, Nat.le_of_ble_eq_true rfl⟩ ?_
  have hF3 : mFr 70 (mss (S) 67 0) (h) := mFr_n hF2 (by decide)
  refine mv_putr (a := 67) (k := 1) (t := 2) (n' := 22) cl7 tyX7_ok nmX7 rfl (by decide) (by decide) (by decide) rfl rfl rfl rfl ⟨rfl, rfl⟩ fl_X7_15 dX7_init_19 rfl ?_
  have hF4 : mFr 70 (mss (mss (S) 67 0) 67 1) (h) := mFr_s hF3 (by decide)
  refine mv_aload_n (n' := 23) (q := 0) dX7_init_22 rfl rfl rfl ?_
  refine mv_bipush (n' := 25) (v := -9) dX7_init_23 rfl (by decide) ?_
  refine mv_puti (a := 67) (k := 3) (n' := 28) cl7 tyX7_ok nmX7 rfl (by decide) (by decide) (by decide) rfl rfl rfl rfl fl_X7_18 dX7_init_25 rfl ?_
  have hF5 : mFr 70 (mss (mss (S) 67 0) 67 1) (msi (h) 67 3 (-9)) := mFr_i hF4 (by decide)
  refine mv_aload_n (n' := 29) (q := 0) dX7_init_28 rfl rfl rfl ?_
  refine mv_iconst (n' := 30) (v := -1) dX7_init_29 rfl (by decide) ?_
  refine mv_puti (a := 67) (k := 4) (n' := 33) cl7 tyX7_ok nmX7 rfl (by decide) (by decide) (by decide) rfl rfl rfl rfl fl_X7_22 dX7_init_30 rfl ?_
  have hF6 : mFr 70 (mss (mss (S) 67 0) 67 1) (msi (msi (h) 67 3 (-9)) 67 4 (-1)) := mFr_i hF5 (by decide)
  exact mv_ret dX7_init_33 rfl
def kS5 (S : mB) : mB := mss (mss (mss (S) 70 0) 70 1) 70 2
def kH5 (h : mH) : mH := h
theorem fr_5 (S : mB) (h : mH) (hF : mFr 71 S h) : mFr 74 (kS5 S) (kH5 h) := by
  have hF1 : mFr 72 (S) (h) := mFr_n hF (by decide)
  have hF2 : mFr 72 (mss (S) 70 0) (h) := mFr_s hF1 (by decide)
  have hF3 : mFr 73 (mss (S) 70 0) (h) := mFr_n hF2 (by decide)
  have hF4 : mFr 73 (mss (mss (S) 70 0) 70 1) (h) := mFr_s hF3 (by decide)
  have hF5 : mFr 74 (mss (mss (S) 70 0) 70 1) (h) := mFr_n hF4 (by decide)
  have hF6 : mFr 74 (mss (mss (mss (S) 70 0) 70 1) 70 2) (h) := mFr_s hF5 (by decide)
  exact hF6
set_option maxRecDepth 20000 in
set_option maxHeartbeats 4000000 in
theorem k_5 (g : mG) (l : Launch) (S : mB) (h : mH) (hF : mFr 71 S h) : mcn g l 0 mX5_init 70 71 S h 74 (kS5 S) (kH5 h) 3 134 := by
  refine mcn_of (by decide) rfl (by decide) ?_
  refine mv_aload_n (n' := 1) (q := 0) dX5_init_0 rfl rfl rfl ?_
  refine mv_objInit (n' := 4) lo_X5_3 oi_im oi_code dX5_init_1 rfl ⟨Nat.le_of_ble_eq_true rfl, Nat.le_of_ble_eq_true rfl⟩ ?_
  refine mv_aload_n (n' := 5) (q := 0) dX5_init_4 rfl rfl rfl ?_
  refine mv_bipush (n' := 7) (v := 6) dX5_init_5 rfl (by decide) ?_
  refine mv_newI (n := 71) (N := 6) (n' := 9) rfl (by decide) (by decide) (by decide) hF ac_int dX5_init_7 rfl ⟨Nat.le_of_ble_eq_true rfl, Nat.le_of_ble_eq_true rfl⟩ ?_
  have hF1 : mFr 72 (S) (h) := mFr_n hF (by decide)
  refine mv_putr (a := 70) (k := 0) (t := 1) (n' := 12) cl5 tyX5_ok nmX5 rfl (by decide) (by decide) (by decide) rfl rfl rfl rfl ⟨rfl, rfl⟩ fl_X5_9 dX5_init_9 rfl ?_
  have hF2 : mFr 72 (mss (S) 70 0) (h) := mFr_s hF1 (by decide)
  refine mv_aload_n (n' := 13) (q := 0) dX5_init_12 rfl rfl rfl ?_
  refine mv_bipush (n' := 15) (v := 64) dX5_init_13 rfl (by decide) ?_
  refine mv_newI (n := 72) (N := 64) (n' := 17) rfl (by decide) (by decide) (by decide) hF2 ac_int dX5_init_15 rfl ⟨Nat.le_of_ble_eq_true rfl, Nat.le_of_ble_eq_true rfl⟩ ?_
  have hF3 : mFr 73 (mss (S) 70 0) (h) := mFr_n hF2 (by decide)
  refine mv_putr (a := 70) (k := 1) (t := 2) (n' := 20) cl5 tyX5_ok nmX5 rfl (by decide) (by decide) (by decide) rfl rfl rfl rfl ⟨rfl, rfl⟩ fl_X5_15 dX5_init_17 rfl ?_
  have hF4 : mFr 73 (mss (mss (S) 70 0) 70 1) (h) := mFr_s hF3 (by decide)
  refine mv_aload_n (n' := 21) (q := 0) dX5_init_20 rfl rfl rfl ?_
  refine mv_bipush (n' := 23) (v := 64) dX5_init_21 rfl (by decide) ?_
  refine mv_newI (n := 73) (N := 64) (n' := 25) rfl (by decide) (by decide) (by decide) hF4 ac_int dX5_init_23 rfl ⟨Nat.le_of_ble_eq_true rfl, Nat.le_of_ble_eq_true rfl⟩ ?_
  have hF5 : mFr 74 (mss (mss (S) 70 0) 70 1) (h) := mFr_n hF4 (by decide)
  refine mv_putr (a := 70) (k := 2) (t := 3) (n' := 28) cl5 tyX5_ok nmX5 rfl (by decide) (by decide) (by decide) rfl rfl rfl rfl ⟨rfl, rfl⟩ fl_X5_18 dX5_init_25 rfl ?_
  have hF6 : mFr 74 (mss (mss (mss (S) 70 0) 70 1) 70 2) (h) := mFr_s hF5 (by decide)
  exact mv_ret dX5_init_28 rfl
def kS8 (S : mB) : mB := mss (kS6 (mss (kS6 (mss (mss (mss (kS5 (mss (kS7 (mss (kS3 (mss (kS0 (mss (kS4 (mss (kS2 (mss (kS2 (S) 1) 0 0) 8) 0 1)) 0 2)) 0 3)) 0 4)) 0 5)) 0 6) 0 7) 0 8) 76) 74 0) 79) 74 1
def kH8 (h : mH) : mH := kH6 (kH6 (kH5 (kH7 (kH3 (kH0 (kH4 (kH2 (kH2 (h) 1) 8)))))) 76) 79
theorem fr_8 (S : mB) (h : mH) (hF : mFr 1 S h) : mFr 82 (kS8 S) (kH8 h) := by
  have hF1 : mFr 2 (S) (h) := mFr_n hF (by decide)
  have hF2 : mFr 8 (kS2 (S) 1) (kH2 (h) 1) := fr_2 (1) (S) (h) hF1
  have hF3 : mFr 8 (mss (kS2 (S) 1) 0 0) (kH2 (h) 1) := mFr_s hF2 (by decide)
  have hF4 : mFr 9 (mss (kS2 (S) 1) 0 0) (kH2 (h) 1) := mFr_n hF3 (by decide)
  have hF5 : mFr 15 (kS2 (mss (kS2 (S) 1) 0 0) 8) (kH2 (kH2 (h) 1) 8) := fr_2 (8) (mss (kS2 (S) 1) 0 0) (kH2 (h) 1) hF4
  have hF6 : mFr 15 (mss (kS2 (mss (kS2 (S) 1) 0 0) 8) 0 1) (kH2 (kH2 (h) 1) 8) := mFr_s hF5 (by decide)
  have hF7 : mFr 16 (mss (kS2 (mss (kS2 (S) 1) 0 0) 8) 0 1) (kH2 (kH2 (h) 1) 8) := mFr_n hF6 (by decide)
  have hF8 : mFr 20 (kS4 (mss (kS2 (mss (kS2 (S) 1) 0 0) 8) 0 1)) (kH4 (kH2 (kH2 (h) 1) 8)) := fr_4 (mss (kS2 (mss (kS2 (S) 1) 0 0) 8) 0 1) (kH2 (kH2 (h) 1) 8) hF7
  have hF9 : mFr 20 (mss (kS4 (mss (kS2 (mss (kS2 (S) 1) 0 0) 8) 0 1)) 0 2) (kH4 (kH2 (kH2 (h) 1) 8)) := mFr_s hF8 (by decide)
  have hF10 : mFr 21 (mss (kS4 (mss (kS2 (mss (kS2 (S) 1) 0 0) 8) 0 1)) 0 2) (kH4 (kH2 (kH2 (h) 1) 8)) := mFr_n hF9 (by decide)
  have hF11 : mFr 64 (kS0 (mss (kS4 (mss (kS2 (mss (kS2 (S) 1) 0 0) 8) 0 1)) 0 2)) (kH0 (kH4 (kH2 (kH2 (h) 1) 8))) := fr_0 (mss (kS4 (mss (kS2 (mss (kS2 (S) 1) 0 0) 8) 0 1)) 0 2) (kH4 (kH2 (kH2 (h) 1) 8)) hF10
  have hF12 : mFr 64 (mss (kS0 (mss (kS4 (mss (kS2 (mss (kS2 (S) 1) 0 0) 8) 0 1)) 0 2)) 0 3) (kH0 (kH4 (kH2 (kH2 (h) 1) 8))) := mFr_s hF11 (by decide)
  have hF13 : mFr 65 (mss (kS0 (mss (kS4 (mss (kS2 (mss (kS2 (S) 1) 0 0) 8) 0 1)) 0 2)) 0 3) (kH0 (kH4 (kH2 (kH2 (h) 1) 8))) := mFr_n hF12 (by decide)
  have hF14 : mFr 67 (kS3 (mss (kS0 (mss (kS4 (mss (kS2 (mss (kS2 (S) 1) 0 0) 8) 0 1)) 0 2)) 0 3)) (kH3 (kH0 (kH4 (kH2 (kH2 (h) 1) 8)))) := fr_3 (mss (kS0 (mss (kS4 (mss (kS2 (mss (kS2 (S) 1) 0 0) 8) 0 1)) 0 2)) 0 3) (kH0 (kH4 (kH2 (kH2 (h) 1) 8))) hF13
  have hF15 : mFr 67 (mss (kS3 (mss (kS0 (mss (kS4 (mss (kS2 (mss (kS2 (S) 1) 0 0) 8) 0 1)) 0 2)) 0 3)) 0 4) (kH3 (kH0 (kH4 (kH2 (kH2 (h) 1) 8)))) := mFr_s hF14 (by decide)
  have hF16 : mFr 68 (mss (kS3 (mss (kS0 (mss (kS4 (mss (kS2 (mss (kS2 (S) 1) 0 0) 8) 0 1)) 0 2)) 0 3)) 0 4) (kH3 (kH0 (kH4 (kH2 (kH2 (h) 1) 8)))) := mFr_n hF15 (by decide)
  have hF17 : mFr 70 (kS7 (mss (kS3 (mss (kS0 (mss (kS4 (mss (kS2 (mss (kS2 (S) 1) 0 0) 8) 0 1)) 0 2)) 0 3)) 0 4)) (kH7 (kH3 (kH0 (kH4 (kH2 (kH2 (h) 1) 8))))) := fr_7 (mss (kS3 (mss (kS0 (mss (kS4 (mss (kS2 (mss (kS2 (S) 1) 0 0) 8) 0 1)) 0 2)) 0 3)) 0 4) (kH3 (kH0 (kH4 (kH2 (kH2 (h) 1) 8)))) hF16
  have hF18 : mFr 70 (mss (kS7 (mss (kS3 (mss (kS0 (mss (kS4 (mss (kS2 (mss (kS2 (S) 1) 0 0) 8) 0 1)) 0 2)) 0 3)) 0 4)) 0 5) (kH7 (kH3 (kH0 (kH4 (kH2 (kH2 (h) 1) 8))))) := mFr_s hF17 (by decide)
  have hF19 : mFr 71 (mss (kS7 (mss (kS3 (mss (kS0 (mss (kS4 (mss (kS2 (mss (kS2 (S) 1) 0 0) 8) 0 1)) 0 2)) 0 3)) 0 4)) 0 5) (kH7 (kH3 (kH0 (kH4 (kH2 (kH2 (h) 1) 8))))) := mFr_n hF18 (by decide)
  have hF20 : mFr 74 (kS5 (mss (kS7 (mss (kS3 (mss (kS0 (mss (kS4 (mss (kS2 (mss (kS2 (S) 1) 0 0) 8) 0 1)) 0 2)) 0 3)) 0 4)) 0 5)) (kH5 (kH7 (kH3 (kH0 (kH4 (kH2 (kH2 (h) 1) 8)))))) := fr_5 (mss (kS7 (mss (kS3 (mss (kS0 (mss (kS4 (mss (kS2 (mss (kS2 (S) 1) 0 0) 8) 0 1)) 0 2)) 0 3)) 0 4)) 0 5) (kH7 (kH3 (kH0 (kH4 (kH2 (kH2 (h) 1) 8))))) hF19
  have hF21 : mFr 74 (mss (kS5 (mss (kS7 (mss (kS3 (mss (kS0 (mss (kS4 (mss (kS2 (mss (kS2 (S) 1) 0 0) 8) 0 1)) 0 2)) 0 3)) 0 4)) 0 5)) 0 6) (kH5 (kH7 (kH3 (kH0 (kH4 (kH2 (kH2 (h) 1) 8)))))) := mFr_s hF20 (by decide)
  have hF22 : mFr 75 (mss (kS5 (mss (kS7 (mss (kS3 (mss (kS0 (mss (kS4 (mss (kS2 (mss (kS2 (S) 1) 0 0) 8) 0 1)) 0 2)) 0 3)) 0 4)) 0 5)) 0 6) (kH5 (kH7 (kH3 (kH0 (kH4 (kH2 (kH2 (h) 1) 8)))))) := mFr_n hF21 (by decide)
  have hF23 : mFr 75 (mss (mss (kS5 (mss (kS7 (mss (kS3 (mss (kS0 (mss (kS4 (mss (kS2 (mss (kS2 (S) 1) 0 0) 8) 0 1)) 0 2)) 0 3)) 0 4)) 0 5)) 0 6) 0 7) (kH5 (kH7 (kH3 (kH0 (kH4 (kH2 (kH2 (h) 1) 8)))))) := mFr_s hF22 (by decide)
  have hF24 : mFr 76 (mss (mss (kS5 (mss (kS7 (mss (kS3 (mss (kS0 (mss (kS4 (mss (kS2 (mss (kS2 (S) 1) 0 0) 8) 0 1)) 0 2)) 0 3)) 0 4)) 0 5)) 0 6) 0 7) (kH5 (kH7 (kH3 (kH0 (kH4 (kH2 (kH2 (h) 1) 8)))))) := mFr_n hF23 (by decide)
  have hF25 : mFr 76 (mss (mss (mss (kS5 (mss (kS7 (mss (kS3 (mss (kS0 (mss (kS4 (mss (kS2 (mss (kS2 (S) 1) 0 0) 8) 0 1)) 0 2)) 0 3)) 0 4)) 0 5)) 0 6) 0 7) 0 8) (kH5 (kH7 (kH3 (kH0 (kH4 (kH2 (kH2 (h) 1) 8)))))) := mFr_s hF24 (by decide)
  have hF26 : mFr 77 (mss (mss (mss (kS5 (mss (kS7 (mss (kS3 (mss (kS0 (mss (kS4 (mss (kS2 (mss (kS2 (S) 1) 0 0) 8) 0 1)) 0 2)) 0 3)) 0 4)) 0 5)) 0 6) 0 7) 0 8) (kH5 (kH7 (kH3 (kH0 (kH4 (kH2 (kH2 (h) 1) 8)))))) := mFr_n hF25 (by decide)
  have hF27 : mFr 79 (kS6 (mss (mss (mss (kS5 (mss (kS7 (mss (kS3 (mss (kS0 (mss (kS4 (mss (kS2 (mss (kS2 (S) 1) 0 0) 8) 0 1)) 0 2)) 0 3)) 0 4)) 0 5)) 0 6) 0 7) 0 8) 76) (kH6 (kH5 (kH7 (kH3 (kH0 (kH4 (kH2 (kH2 (h) 1) 8)))))) 76) := fr_6 (76) (mss (mss (mss (kS5 (mss (kS7 (mss (kS3 (mss (kS0 (mss (kS4 (mss (kS2 (mss (kS2 (S) 1) 0 0) 8) 0 1)) 0 2)) 0 3)) 0 4)) 0 5)) 0 6) 0 7) 0 8) (kH5 (kH7 (kH3 (kH0 (kH4 (kH2 (kH2 (h) 1) 8)))))) hF26
  have hF28 : mFr 79 (mss (kS6 (mss (mss (mss (kS5 (mss (kS7 (mss (kS3 (mss (kS0 (mss (kS4 (mss (kS2 (mss (kS2 (S) 1) 0 0) 8) 0 1)) 0 2)) 0 3)) 0 4)) 0 5)) 0 6) 0 7) 0 8) 76) 74 0) (kH6 (kH5 (kH7 (kH3 (kH0 (kH4 (kH2 (kH2 (h) 1) 8)))))) 76) := mFr_s hF27 (by decide)
  have hF29 : mFr 80 (mss (kS6 (mss (mss (mss (kS5 (mss (kS7 (mss (kS3 (mss (kS0 (mss (kS4 (mss (kS2 (mss (kS2 (S) 1) 0 0) 8) 0 1)) 0 2)) 0 3)) 0 4)) 0 5)) 0 6) 0 7) 0 8) 76) 74 0) (kH6 (kH5 (kH7 (kH3 (kH0 (kH4 (kH2 (kH2 (h) 1) 8)))))) 76) := mFr_n hF28 (by decide)
  have hF30 : mFr 82 (kS6 (mss (kS6 (mss (mss (mss (kS5 (mss (kS7 (mss (kS3 (mss (kS0 (mss (kS4 (mss (kS2 (mss (kS2 (S) 1) 0 0) 8) 0 1)) 0 2)) 0 3)) 0 4)) 0 5)) 0 6) 0 7) 0 8) 76) 74 0) 79) (kH6 (kH6 (kH5 (kH7 (kH3 (kH0 (kH4 (kH2 (kH2 (h) 1) 8)))))) 76) 79) := fr_6 (79) (mss (kS6 (mss (mss (mss (kS5 (mss (kS7 (mss (kS3 (mss (kS0 (mss (kS4 (mss (kS2 (mss (kS2 (S) 1) 0 0) 8) 0 1)) 0 2)) 0 3)) 0 4)) 0 5)) 0 6) 0 7) 0 8) 76) 74 0) (kH6 (kH5 (kH7 (kH3 (kH0 (kH4 (kH2 (kH2 (h) 1) 8)))))) 76) hF29
  have hF31 : mFr 82 (mss (kS6 (mss (kS6 (mss (mss (mss (kS5 (mss (kS7 (mss (kS3 (mss (kS0 (mss (kS4 (mss (kS2 (mss (kS2 (S) 1) 0 0) 8) 0 1)) 0 2)) 0 3)) 0 4)) 0 5)) 0 6) 0 7) 0 8) 76) 74 0) 79) 74 1) (kH6 (kH6 (kH5 (kH7 (kH3 (kH0 (kH4 (kH2 (kH2 (h) 1) 8)))))) 76) 79) := mFr_s hF30 (by decide)
  exact hF31
theorem full_8 : mFull 82 (kS8 (fun _ _ => false)) := by unfold mFull; decide +kernel
set_option maxRecDepth 20000 in
set_option maxHeartbeats 4000000 in
theorem k_8 (g : mG) (l : Launch) (N : Nat) (h : mH) (h3 : mH) (hF : mFr 1 (fun _ _ => false) h) (hx : x_X2_settle N 1 (kH8 h) = some h3) : mcn g l 10 mX8_init 0 1 (fun _ _ => false) h 82 (kS8 (fun _ _ => false)) h3 81 2406 := by
  refine mcn_of (by decide) rfl (by decide) ?_
  have hful := full_8
  obtain ⟨S, hS⟩ : ∃ S : mB, S = fun _ _ => false := ⟨_, rfl⟩
  rw [← hS] at hF hful ⊢
  refine mv_aload_n (n' := 1) (q := 0) dX8_init_0 rfl rfl rfl ?_
  refine mv_objInit (n' := 4) lo_X8_1 oi_im oi_code dX8_init_1 rfl ⟨Nat.le_of_ble_eq_true rfl, Nat.le_of_ble_eq_true rfl⟩ ?_
  refine mv_aload_n (n' := 5) (q := 0) dX8_init_4 rfl rfl rfl ?_
  refine mv_new (n := 1) (n' := 8) cl2 tyX2_ok dv2 rfl hF ck_X8_7 it_X2 ini_X2 dX8_init_5 rfl ⟨Nat.le_of_ble_eq_true rfl, Nat.le_of_ble_eq_true rfl⟩ ?_
  have hF1 : mFr 2 (S) (h) := mFr_n hF (by decide)
  refine mv_dup (n' := 9) dX8_init_8 rfl rfl ?_
  refine mv_callIN (n' := 12) (k_2 g l 1 (S) (h) rfl rfl rfl rfl rfl rfl rfl (by decide) hF1) ok_X2_init rfl rfl ⟨Nat.le_of_ble_eq_true rfl, Nat.le_of_ble_eq_true rfl⟩ ⟨Nat.le_of_ble_eq_true rfl, Nat.le_of_ble_eq_true rfl⟩ ln_X8_9 im_X2_init dX8_init_9 rfl (Nat.le_of_ble_eq_true rfl) ?_
  have hF2 : mFr 8 (kS2 (S) 1) (kH2 (h) 1) := fr_2 (1) (S) (h) hF1
  refine mv_putr (a := 0) (k := 0) (t := 1) (n' := 15) cl8 tyX8_ok nmX8 rfl (by decide) (by decide) (by decide) rfl rfl rfl rfl ⟨rfl, rfl⟩ fl_X8_10 dX8_init_12 rfl ?_
  have hF3 : mFr 8 (mss (kS2 (S) 1) 0 0) (kH2 (h) 1) := mFr_s hF2 (by decide)
  refine mv_aload_n (n' := 16) (q := 0) dX8_init_15 rfl rfl rfl ?_
  refine mv_new (n := 8) (n' := 19) cl2 tyX2_ok dv2 rfl hF3 ck_X8_7 it_X2 ini_X2 dX8_init_16 rfl ⟨Nat.le_of_ble_eq_true rfl, Nat.le_of_ble_eq_true rfl⟩ ?_
  have hF4 : mFr 9 (mss (kS2 (S) 1) 0 0) (kH2 (h) 1) := mFr_n hF3 (by decide)
  refine mv_dup (n' := 20) dX8_init_19 rfl rfl ?_
  refine mv_callIN (n' := 23) (k_2 g l 8 (mss (kS2 (S) 1) 0 0) (kH2 (h) 1) rfl rfl rfl rfl rfl rfl rfl (by decide) hF4) ok_X2_init rfl rfl ⟨Nat.le_of_ble_eq_true rfl, Nat.le_of_ble_eq_true rfl⟩ ⟨Nat.le_of_ble_eq_true rfl, Nat.le_of_ble_eq_true rfl⟩ ln_X8_9 im_X2_init dX8_init_20 rfl (Nat.le_of_ble_eq_true rfl) ?_
  have hF5 : mFr 15 (kS2 (mss (kS2 (S) 1) 0 0) 8) (kH2 (kH2 (h) 1) 8) := fr_2 (8) (mss (kS2 (S) 1) 0 0) (kH2 (h) 1) hF4
  refine mv_putr (a := 0) (k := 1) (t := 8) (n' := 26) cl8 tyX8_ok nmX8 rfl (by decide) (by decide) (by decide) rfl rfl rfl rfl ⟨rfl, rfl⟩ fl_X8_16 dX8_init_23 rfl ?_
  have hF6 : mFr 15 (mss (kS2 (mss (kS2 (S) 1) 0 0) 8) 0 1) (kH2 (kH2 (h) 1) 8) := mFr_s hF5 (by decide)
  refine mv_aload_n (n' := 27) (q := 0) dX8_init_26 rfl rfl rfl ?_
  refine mv_new (n := 15) (n' := 30) cl4 tyX4_ok dv4 rfl hF6 ck_X8_19 it_X4 ini_X4 dX8_init_27 rfl ⟨Nat.le_of_ble_eq_true rfl, Nat.le_of_ble_eq_true rfl⟩ ?_
  have hF7 : mFr 16 (mss (kS2 (mss (kS2 (S) 1) 0 0) 8) 0 1) (kH2 (kH2 (h) 1) 8) := mFr_n hF6 (by decide)
  refine mv_dup (n' := 31) dX8_init_30 rfl rfl ?_
  refine mv_callIN (n' := 34) (k_4 g l (mss (kS2 (mss (kS2 (S) 1) 0 0) 8) 0 1) (kH2 (kH2 (h) 1) 8)   hF7) ok_X4_init rfl rfl ⟨Nat.le_of_ble_eq_true rfl, Nat.le_of_ble_eq_true rfl⟩ ⟨Nat.le_of_ble_eq_true rfl, Nat.le_of_ble_eq_true rfl⟩ ln_X8_21 im_X4_init dX8_init_31 rfl (Nat.le_of_ble_eq_true rfl) ?_
  have hF8 : mFr 20 (kS4 (mss (kS2 (mss (kS2 (S) 1) 0 0) 8) 0 1)) (kH4 (kH2 (kH2 (h) 1) 8)) := fr_4 (mss (kS2 (mss (kS2 (S) 1) 0 0) 8) 0 1) (kH2 (kH2 (h) 1) 8) hF7
  refine mv_putr (a := 0) (k := 2) (t := 15) (n' := 37) cl8 tyX8_ok nmX8 rfl (by decide) (by decide) (by decide) rfl rfl rfl rfl ⟨rfl, rfl⟩ fl_X8_22 dX8_init_34 rfl ?_
  have hF9 : mFr 20 (mss (kS4 (mss (kS2 (mss (kS2 (S) 1) 0 0) 8) 0 1)) 0 2) (kH4 (kH2 (kH2 (h) 1) 8)) := mFr_s hF8 (by decide)
  refine mv_aload_n (n' := 38) (q := 0) dX8_init_37 rfl rfl rfl ?_
  refine mv_new (n := 20) (n' := 41) cl0 tyX0_ok dv0 rfl hF9 ck_X8_26 it_X0 ini_X0 dX8_init_38 rfl ⟨Nat.le_of_ble_eq_true rfl, Nat.le_of_ble_eq_true rfl⟩ ?_
  have hF10 : mFr 21 (mss (kS4 (mss (kS2 (mss (kS2 (S) 1) 0 0) 8) 0 1)) 0 2) (kH4 (kH2 (kH2 (h) 1) 8)) := mFr_n hF9 (by decide)
  refine mv_dup (n' := 42) dX8_init_41 rfl rfl ?_
  refine mv_callI (n' := 45) (k_0 g l (mss (kS4 (mss (kS2 (mss (kS2 (S) 1) 0 0) 8) 0 1)) 0 2) (kH4 (kH2 (kH2 (h) 1) 8))   hF10) ok_X0_init rfl rfl ⟨Nat.le_of_ble_eq_true rfl, Nat.le_of_ble_eq_true rfl⟩ ⟨Nat.le_of_ble_eq_true rfl, Nat.le_of_ble_eq_true rfl⟩ lk_X8_28 im_X0_init dX8_init_42 rfl (Nat.le_of_ble_eq_true rfl) ?_
  have hF11 : mFr 64 (kS0 (mss (kS4 (mss (kS2 (mss (kS2 (S) 1) 0 0) 8) 0 1)) 0 2)) (kH0 (kH4 (kH2 (kH2 (h) 1) 8))) := fr_0 (mss (kS4 (mss (kS2 (mss (kS2 (S) 1) 0 0) 8) 0 1)) 0 2) (kH4 (kH2 (kH2 (h) 1) 8)) hF10
  refine mv_putr (a := 0) (k := 3) (t := 20) (n' := 48) cl8 tyX8_ok nmX8 rfl (by decide) (by decide) (by decide) rfl rfl rfl rfl ⟨rfl, rfl⟩ fl_X8_29 dX8_init_45 rfl ?_
  have hF12 : mFr 64 (mss (kS0 (mss (kS4 (mss (kS2 (mss (kS2 (S) 1) 0 0) 8) 0 1)) 0 2)) 0 3) (kH0 (kH4 (kH2 (kH2 (h) 1) 8))) := mFr_s hF11 (by decide)
  refine mv_aload_n (n' := 49) (q := 0) dX8_init_48 rfl rfl rfl ?_
  refine mv_new (n := 64) (n' := 52) cl3 tyX3_ok dv3 rfl hF12 ck_X8_33 it_X3 ini_X3 dX8_init_49 rfl ⟨Nat.le_of_ble_eq_true rfl, Nat.le_of_ble_eq_true rfl⟩ ?_
  have hF13 : mFr 65 (mss (kS0 (mss (kS4 (mss (kS2 (mss (kS2 (S) 1) 0 0) 8) 0 1)) 0 2)) 0 3) (kH0 (kH4 (kH2 (kH2 (h) 1) 8))) := mFr_n hF12 (by decide)
  refine mv_dup (n' := 53) dX8_init_52 rfl rfl ?_
  refine mv_callIN (n' := 56) (k_3 g l (mss (kS0 (mss (kS4 (mss (kS2 (mss (kS2 (S) 1) 0 0) 8) 0 1)) 0 2)) 0 3) (kH0 (kH4 (kH2 (kH2 (h) 1) 8)))   hF13) ok_X3_init rfl rfl ⟨Nat.le_of_ble_eq_true rfl, Nat.le_of_ble_eq_true rfl⟩ ⟨Nat.le_of_ble_eq_true rfl, Nat.le_of_ble_eq_true rfl⟩ ln_X8_35 im_X3_init dX8_init_53 rfl (Nat.le_of_ble_eq_true rfl) ?_
  have hF14 : mFr 67 (kS3 (mss (kS0 (mss (kS4 (mss (kS2 (mss (kS2 (S) 1) 0 0) 8) 0 1)) 0 2)) 0 3)) (kH3 (kH0 (kH4 (kH2 (kH2 (h) 1) 8)))) := fr_3 (mss (kS0 (mss (kS4 (mss (kS2 (mss (kS2 (S) 1) 0 0) 8) 0 1)) 0 2)) 0 3) (kH0 (kH4 (kH2 (kH2 (h) 1) 8))) hF13
  refine mv_putr (a := 0) (k := 4) (t := 64) (n' := 59) cl8 tyX8_ok nmX8 rfl (by decide) (by decide) (by decide) rfl rfl rfl rfl ⟨rfl, rfl⟩ fl_X8_36 dX8_init_56 rfl ?_
  have hF15 : mFr 67 (mss (kS3 (mss (kS0 (mss (kS4 (mss (kS2 (mss (kS2 (S) 1) 0 0) 8) 0 1)) 0 2)) 0 3)) 0 4) (kH3 (kH0 (kH4 (kH2 (kH2 (h) 1) 8)))) := mFr_s hF14 (by decide)
  refine mv_aload_n (n' := 60) (q := 0) dX8_init_59 rfl rfl rfl ?_
  refine mv_new (n := 67) (n' := 63) cl7 tyX7_ok dv7 rfl hF15 ck_X8_40 it_X7 ini_X7 dX8_init_60 rfl ⟨Nat.le_of_ble_eq_true rfl, Nat.le_of_ble_eq_true rfl⟩ ?_
  have hF16 : mFr 68 (mss (kS3 (mss (kS0 (mss (kS4 (mss (kS2 (mss (kS2 (S) 1) 0 0) 8) 0 1)) 0 2)) 0 3)) 0 4) (kH3 (kH0 (kH4 (kH2 (kH2 (h) 1) 8)))) := mFr_n hF15 (by decide)
  refine mv_dup (n' := 64) dX8_init_63 rfl rfl ?_
  refine mv_callIN (n' := 67) (k_7 g l (mss (kS3 (mss (kS0 (mss (kS4 (mss (kS2 (mss (kS2 (S) 1) 0 0) 8) 0 1)) 0 2)) 0 3)) 0 4) (kH3 (kH0 (kH4 (kH2 (kH2 (h) 1) 8))))   hF16) ok_X7_init rfl rfl ⟨Nat.le_of_ble_eq_true rfl, Nat.le_of_ble_eq_true rfl⟩ ⟨Nat.le_of_ble_eq_true rfl, Nat.le_of_ble_eq_true rfl⟩ ln_X8_42 im_X7_init dX8_init_64 rfl (Nat.le_of_ble_eq_true rfl) ?_
  have hF17 : mFr 70 (kS7 (mss (kS3 (mss (kS0 (mss (kS4 (mss (kS2 (mss (kS2 (S) 1) 0 0) 8) 0 1)) 0 2)) 0 3)) 0 4)) (kH7 (kH3 (kH0 (kH4 (kH2 (kH2 (h) 1) 8))))) := fr_7 (mss (kS3 (mss (kS0 (mss (kS4 (mss (kS2 (mss (kS2 (S) 1) 0 0) 8) 0 1)) 0 2)) 0 3)) 0 4) (kH3 (kH0 (kH4 (kH2 (kH2 (h) 1) 8)))) hF16
  refine mv_putr (a := 0) (k := 5) (t := 67) (n' := 70) cl8 tyX8_ok nmX8 rfl (by decide) (by decide) (by decide) rfl rfl rfl rfl ⟨rfl, rfl⟩ fl_X8_43 dX8_init_67 rfl ?_
  have hF18 : mFr 70 (mss (kS7 (mss (kS3 (mss (kS0 (mss (kS4 (mss (kS2 (mss (kS2 (S) 1) 0 0) 8) 0 1)) 0 2)) 0 3)) 0 4)) 0 5) (kH7 (kH3 (kH0 (kH4 (kH2 (kH2 (h) 1) 8))))) := mFr_s hF17 (by decide)
  refine mv_aload_n (n' := 71) (q := 0) dX8_init_70 rfl rfl rfl ?_
  refine mv_new (n := 70) (n' := 74) cl5 tyX5_ok dv5 rfl hF18 ck_X8_47 it_X5 ini_X5 dX8_init_71 rfl ⟨Nat.le_of_ble_eq_true rfl, Nat.le_of_ble_eq_true rfl⟩ ?_
  have hF19 : mFr 71 (mss (kS7 (mss (kS3 (mss (kS0 (mss (kS4 (mss (kS2 (mss (kS2 (S) 1) 0 0) 8) 0 1)) 0 2)) 0 3)) 0 4)) 0 5) (kH7 (kH3 (kH0 (kH4 (kH2 (kH2 (h) 1) 8))))) := mFr_n hF18 (by decide)
  refine mv_dup (n' := 75) dX8_init_74 rfl rfl ?_
  refine mv_callIN (n' := 78) (k_5 g l (mss (kS7 (mss (kS3 (mss (kS0 (mss (kS4 (mss (kS2 (mss (kS2 (S) 1) 0 0) 8) 0 1)) 0 2)) 0 3)) 0 4)) 0 5) (kH7 (kH3 (kH0 (kH4 (kH2 (kH2 (h) 1) 8)))))   hF19) ok_X5_init rfl rfl ⟨Nat.le_of_ble_eq_true rfl, Nat.le_of_ble_eq_true rfl⟩ ⟨Nat.le_of_ble_eq_true rfl, Nat.le_of_ble_eq_true rfl⟩ ln_X8_49 im_X5_init dX8_init_75 rfl (Nat.le_of_ble_eq_true rfl) ?_
  have hF20 : mFr 74 (kS5 (mss (kS7 (mss (kS3 (mss (kS0 (mss (kS4 (mss (kS2 (mss (kS2 (S) 1) 0 0) 8) 0 1)) 0 2)) 0 3)) 0 4)) 0 5)) (kH5 (kH7 (kH3 (kH0 (kH4 (kH2 (kH2 (h) 1) 8)))))) := fr_5 (mss (kS7 (mss (kS3 (mss (kS0 (mss (kS4 (mss (kS2 (mss (kS2 (S) 1) 0 0) 8) 0 1)) 0 2)) 0 3)) 0 4)) 0 5) (kH7 (kH3 (kH0 (kH4 (kH2 (kH2 (h) 1) 8))))) hF19
  refine mv_putr (a := 0) (k := 6) (t := 70) (n' := 81) cl8 tyX8_ok nmX8 rfl (by decide) (by decide) (by decide) rfl rfl rfl rfl ⟨rfl, rfl⟩ fl_X8_50 dX8_init_78 rfl ?_
  have hF21 : mFr 74 (mss (kS5 (mss (kS7 (mss (kS3 (mss (kS0 (mss (kS4 (mss (kS2 (mss (kS2 (S) 1) 0 0) 8) 0 1)) 0 2)) 0 3)) 0 4)) 0 5)) 0 6) (kH5 (kH7 (kH3 (kH0 (kH4 (kH2 (kH2 (h) 1) 8)))))) := mFr_s hF20 (by decide)
  refine mv_aload_n (n' := 82) (q := 0) dX8_init_81 rfl rfl rfl ?_
  refine mv_iconst (n' := 83) (v := 2) dX8_init_82 rfl (by decide) ?_
  refine mv_newA (n := 74) (N := 2) (n' := 86) (Or.inr ⟨rfl, rfl⟩) (by decide) (by decide) hF21 ck_X8_54 dX8_init_83 rfl ⟨Nat.le_of_ble_eq_true rfl, Nat.le_of_ble_eq_true rfl⟩ ?_
  have hF22 : mFr 75 (mss (kS5 (mss (kS7 (mss (kS3 (mss (kS0 (mss (kS4 (mss (kS2 (mss (kS2 (S) 1) 0 0) 8) 0 1)) 0 2)) 0 3)) 0 4)) 0 5)) 0 6) (kH5 (kH7 (kH3 (kH0 (kH4 (kH2 (kH2 (h) 1) 8)))))) := mFr_n hF21 (by decide)
  refine mv_putr (a := 0) (k := 7) (t := 74) (n' := 89) cl8 tyX8_ok nmX8 rfl (by decide) (by decide) (by decide) rfl rfl rfl rfl ⟨rfl, rfl⟩ fl_X8_56 dX8_init_86 rfl ?_
  have hF23 : mFr 75 (mss (mss (kS5 (mss (kS7 (mss (kS3 (mss (kS0 (mss (kS4 (mss (kS2 (mss (kS2 (S) 1) 0 0) 8) 0 1)) 0 2)) 0 3)) 0 4)) 0 5)) 0 6) 0 7) (kH5 (kH7 (kH3 (kH0 (kH4 (kH2 (kH2 (h) 1) 8)))))) := mFr_s hF22 (by decide)
  refine mv_aload_n (n' := 90) (q := 0) dX8_init_89 rfl rfl rfl ?_
  refine mv_iconst (n' := 91) (v := 2) dX8_init_90 rfl (by decide) ?_
  refine mv_newZ (n := 75) (n' := 93) rfl (by decide) (by decide) hF23 ac_bool dX8_init_91 rfl ⟨Nat.le_of_ble_eq_true rfl, Nat.le_of_ble_eq_true rfl⟩ ?_
  have hF24 : mFr 76 (mss (mss (kS5 (mss (kS7 (mss (kS3 (mss (kS0 (mss (kS4 (mss (kS2 (mss (kS2 (S) 1) 0 0) 8) 0 1)) 0 2)) 0 3)) 0 4)) 0 5)) 0 6) 0 7) (kH5 (kH7 (kH3 (kH0 (kH4 (kH2 (kH2 (h) 1) 8)))))) := mFr_n hF23 (by decide)
  refine mv_putr (a := 0) (k := 8) (t := 75) (n' := 96) cl8 tyX8_ok nmX8 rfl (by decide) (by decide) (by decide) rfl rfl rfl rfl ⟨rfl, rfl⟩ fl_X8_60 dX8_init_93 rfl ?_
  have hF25 : mFr 76 (mss (mss (mss (kS5 (mss (kS7 (mss (kS3 (mss (kS0 (mss (kS4 (mss (kS2 (mss (kS2 (S) 1) 0 0) 8) 0 1)) 0 2)) 0 3)) 0 4)) 0 5)) 0 6) 0 7) 0 8) (kH5 (kH7 (kH3 (kH0 (kH4 (kH2 (kH2 (h) 1) 8)))))) := mFr_s hF24 (by decide)
  refine mv_iconst (n' := 97) (v := 0) dX8_init_96 rfl (by decide) ?_
  refine mv_istore_n (n' := 98) dX8_init_97 rfl rfl (by decide) rfl ?_
  refine mv_iload_n (n' := 99) (q := 0) dX8_init_98 rfl rfl rfl ?_
  refine mv_iconst (n' := 100) (v := 2) dX8_init_99 rfl (by decide) ?_
  refine mv_ge_f (n' := 103) (t := 122) dX8_init_100 rfl (by decide) (by decide) ?_
  refine mv_aload_n (n' := 104) (q := 1) dX8_init_103 rfl rfl rfl ?_
  refine mv_getr (a := 0) (k := 7) (t := 74) (n' := 107) cl8 rfl (by decide) (by decide) rfl (by first | rfl | simp [mss, kS0, kS1, kS2, kS3, kS4, kS5, kS6, kS7]) rfl fl_X8_56 dX8_init_104 rfl ?_
  refine mv_iload_n (n' := 108) (q := 0) dX8_init_107 rfl rfl rfl ?_
  refine mv_new (n := 76) (n' := 111) cl6 tyX6_ok dv6 rfl hF25 ck_X8_54 it_X6 ini_X6 dX8_init_108 rfl ⟨Nat.le_of_ble_eq_true rfl, Nat.le_of_ble_eq_true rfl⟩ ?_
  have hF26 : mFr 77 (mss (mss (mss (kS5 (mss (kS7 (mss (kS3 (mss (kS0 (mss (kS4 (mss (kS2 (mss (kS2 (S) 1) 0 0) 8) 0 1)) 0 2)) 0 3)) 0 4)) 0 5)) 0 6) 0 7) 0 8) (kH5 (kH7 (kH3 (kH0 (kH4 (kH2 (kH2 (h) 1) 8)))))) := mFr_n hF25 (by decide)
  refine mv_dup (n' := 112) dX8_init_111 rfl rfl ?_
  refine mv_callIN (n' := 115) (k_6 g l 76 (mss (mss (mss (kS5 (mss (kS7 (mss (kS3 (mss (kS0 (mss (kS4 (mss (kS2 (mss (kS2 (S) 1) 0 0) 8) 0 1)) 0 2)) 0 3)) 0 4)) 0 5)) 0 6) 0 7) 0 8) (kH5 (kH7 (kH3 (kH0 (kH4 (kH2 (kH2 (h) 1) 8)))))) rfl rfl rfl (by decide) hF26) ok_X6_init rfl rfl ⟨Nat.le_of_ble_eq_true rfl, Nat.le_of_ble_eq_true rfl⟩ ⟨Nat.le_of_ble_eq_true rfl, Nat.le_of_ble_eq_true rfl⟩ ln_X8_64 im_X6_init dX8_init_112 rfl (Nat.le_of_ble_eq_true rfl) ?_
  have hF27 : mFr 79 (kS6 (mss (mss (mss (kS5 (mss (kS7 (mss (kS3 (mss (kS0 (mss (kS4 (mss (kS2 (mss (kS2 (S) 1) 0 0) 8) 0 1)) 0 2)) 0 3)) 0 4)) 0 5)) 0 6) 0 7) 0 8) 76) (kH6 (kH5 (kH7 (kH3 (kH0 (kH4 (kH2 (kH2 (h) 1) 8)))))) 76) := fr_6 (76) (mss (mss (mss (kS5 (mss (kS7 (mss (kS3 (mss (kS0 (mss (kS4 (mss (kS2 (mss (kS2 (S) 1) 0 0) 8) 0 1)) 0 2)) 0 3)) 0 4)) 0 5)) 0 6) 0 7) 0 8) (kH5 (kH7 (kH3 (kH0 (kH4 (kH2 (kH2 (h) 1) 8)))))) hF26
  refine mv_aast (a := 74) (j := 0) (b0 := 76) (N := 2) (n' := 116) (Or.inr ⟨rfl, rfl, rfl⟩) (by decide) (by decide) (by decide) rfl (by decide) (show ¬ ((0 : Int32) < 0 ∨ 2 ≤ (0 : Int32).toNatClampNeg) by decide) dX8_init_115 rfl ?_
  have hF28 : mFr 79 (mss (kS6 (mss (mss (mss (kS5 (mss (kS7 (mss (kS3 (mss (kS0 (mss (kS4 (mss (kS2 (mss (kS2 (S) 1) 0 0) 8) 0 1)) 0 2)) 0 3)) 0 4)) 0 5)) 0 6) 0 7) 0 8) 76) 74 0) (kH6 (kH5 (kH7 (kH3 (kH0 (kH4 (kH2 (kH2 (h) 1) 8)))))) 76) := mFr_s hF27 (by decide)
  refine mv_iinc (n' := 119) (q := 0) (v := 1) dX8_init_116 rfl rfl (by decide) (by decide) rfl ?_
  refine mv_goto (n' := 98) dX8_init_119 (by decide) ?_
  refine mv_iload_n (n' := 99) (q := 0) dX8_init_98 rfl rfl rfl ?_
  refine mv_iconst (n' := 100) (v := 2) dX8_init_99 rfl (by decide) ?_
  refine mv_ge_f (n' := 103) (t := 122) dX8_init_100 rfl (by decide) (by decide) ?_
  refine mv_aload_n (n' := 104) (q := 1) dX8_init_103 rfl rfl rfl ?_
  refine mv_getr (a := 0) (k := 7) (t := 74) (n' := 107) cl8 rfl (by decide) (by decide) rfl (by first | rfl | simp [mss, kS0, kS1, kS2, kS3, kS4, kS5, kS6, kS7]) rfl fl_X8_56 dX8_init_104 rfl ?_
  refine mv_iload_n (n' := 108) (q := 0) dX8_init_107 rfl rfl rfl ?_
  refine mv_new (n := 79) (n' := 111) cl6 tyX6_ok dv6 rfl hF28 ck_X8_54 it_X6 ini_X6 dX8_init_108 rfl ⟨Nat.le_of_ble_eq_true rfl, Nat.le_of_ble_eq_true rfl⟩ ?_
  have hF29 : mFr 80 (mss (kS6 (mss (mss (mss (kS5 (mss (kS7 (mss (kS3 (mss (kS0 (mss (kS4 (mss (kS2 (mss (kS2 (S) 1) 0 0) 8) 0 1)) 0 2)) 0 3)) 0 4)) 0 5)) 0 6) 0 7) 0 8) 76) 74 0) (kH6 (kH5 (kH7 (kH3 (kH0 (kH4 (kH2 (kH2 (h) 1) 8)))))) 76) := mFr_n hF28 (by decide)
  refine mv_dup (n' := 112) dX8_init_111 rfl rfl ?_
  refine mv_callIN (n' := 115) (k_6 g l 79 (mss (kS6 (mss (mss (mss (kS5 (mss (kS7 (mss (kS3 (mss (kS0 (mss (kS4 (mss (kS2 (mss (kS2 (S) 1) 0 0) 8) 0 1)) 0 2)) 0 3)) 0 4)) 0 5)) 0 6) 0 7) 0 8) 76) 74 0) (kH6 (kH5 (kH7 (kH3 (kH0 (kH4 (kH2 (kH2 (h) 1) 8)))))) 76) rfl rfl rfl (by decide) hF29) ok_X6_init rfl rfl ⟨Nat.le_of_ble_eq_true rfl, Nat.le_of_ble_eq_true rfl⟩ ⟨Nat.le_of_ble_eq_true rfl, Nat.le_of_ble_eq_true rfl⟩ ln_X8_64 im_X6_init dX8_init_112 rfl (Nat.le_of_ble_eq_true rfl) ?_
  have hF30 : mFr 82 (kS6 (mss (kS6 (mss (mss (mss (kS5 (mss (kS7 (mss (kS3 (mss (kS0 (mss (kS4 (mss (kS2 (mss (kS2 (S) 1) 0 0) 8) 0 1)) 0 2)) 0 3)) 0 4)) 0 5)) 0 6) 0 7) 0 8) 76) 74 0) 79) (kH6 (kH6 (kH5 (kH7 (kH3 (kH0 (kH4 (kH2 (kH2 (h) 1) 8)))))) 76) 79) := fr_6 (79) (mss (kS6 (mss (mss (mss (kS5 (mss (kS7 (mss (kS3 (mss (kS0 (mss (kS4 (mss (kS2 (mss (kS2 (S) 1) 0 0) 8) 0 1)) 0 2)) 0 3)) 0 4)) 0 5)) 0 6) 0 7) 0 8) 76) 74 0) (kH6 (kH5 (kH7 (kH3 (kH0 (kH4 (kH2 (kH2 (h) 1) 8)))))) 76) hF29
  refine mv_aast (a := 74) (j := 1) (b0 := 76) (N := 2) (n' := 116) (Or.inr ⟨rfl, rfl, rfl⟩) (by decide) (by decide) (by decide) rfl (by decide) (show ¬ ((1 : Int32) < 0 ∨ 2 ≤ (1 : Int32).toNatClampNeg) by decide) dX8_init_115 rfl ?_
  have hF31 : mFr 82 (mss (kS6 (mss (kS6 (mss (mss (mss (kS5 (mss (kS7 (mss (kS3 (mss (kS0 (mss (kS4 (mss (kS2 (mss (kS2 (S) 1) 0 0) 8) 0 1)) 0 2)) 0 3)) 0 4)) 0 5)) 0 6) 0 7) 0 8) 76) 74 0) 79) 74 1) (kH6 (kH6 (kH5 (kH7 (kH3 (kH0 (kH4 (kH2 (kH2 (h) 1) 8)))))) 76) 79) := mFr_s hF30 (by decide)
  refine mv_iinc (n' := 119) (q := 0) (v := 2) dX8_init_116 rfl rfl (by decide) (by decide) rfl ?_
  refine mv_goto (n' := 98) dX8_init_119 (by decide) ?_
  refine mv_iload_n (n' := 99) (q := 0) dX8_init_98 rfl rfl rfl ?_
  refine mv_iconst (n' := 100) (v := 2) dX8_init_99 rfl (by decide) ?_
  refine mv_ge_t (t := 122) dX8_init_100 (by decide) (by decide) ?_
  refine mv_aload_n (n' := 123) (q := 1) dX8_init_122 rfl rfl rfl ?_
  refine mv_getr (a := 0) (k := 0) (t := 1) (n' := 126) cl8 rfl (by decide) (by decide) rfl (by first | rfl | simp [mss, kS0, kS1, kS2, kS3, kS4, kS5, kS6, kS7]) rfl fl_X8_10 dX8_init_123 rfl ?_
  refine mv_settle (n' := 129) hx hful ⟨Nat.le_of_ble_eq_true rfl, Nat.le_of_ble_eq_true rfl⟩ ⟨Nat.le_of_ble_eq_true rfl, Nat.le_of_ble_eq_true rfl⟩ lk_X8_65 dX8_init_126 rfl (Nat.le_of_ble_eq_true rfl) ?_
  exact mv_ret dX8_init_129 rfl
def kS9 (S : mB) : mB := mss (mss (mss (mss (mss (mss (mss (mss (mss (mss (mss (mss (mss (mss (mss (mss (mss (mss (S) 82 1) 82 3) 82 4) 82 5) 82 6) 82 8) 82 9) 82 11) 82 12) 82 14) 82 15) 82 16) 82 18) 82 19) 82 20) 82 21) 82 22) 82 23
def kH9 (h : mH) : mH := msi (msi (h) 85 0 1) 85 1 1
theorem fr_9 (S : mB) (h : mH) (hF : mFr 83 S h) : mFr 101 (kS9 S) (kH9 h) := by
  have hF1 : mFr 84 (S) (h) := mFr_n hF (by decide)
  have hF2 : mFr 84 (mss (S) 82 1) (h) := mFr_s hF1 (by decide)
  have hF3 : mFr 85 (mss (S) 82 1) (h) := mFr_n hF2 (by decide)
  have hF4 : mFr 85 (mss (mss (S) 82 1) 82 3) (h) := mFr_s hF3 (by decide)
  have hF5 : mFr 86 (mss (mss (S) 82 1) 82 3) (h) := mFr_n hF4 (by decide)
  have hF6 : mFr 86 (mss (mss (mss (S) 82 1) 82 3) 82 4) (h) := mFr_s hF5 (by decide)
  have hF7 : mFr 87 (mss (mss (mss (S) 82 1) 82 3) 82 4) (h) := mFr_n hF6 (by decide)
  have hF8 : mFr 87 (mss (mss (mss (mss (S) 82 1) 82 3) 82 4) 82 5) (h) := mFr_s hF7 (by decide)
  have hF9 : mFr 88 (mss (mss (mss (mss (S) 82 1) 82 3) 82 4) 82 5) (h) := mFr_n hF8 (by decide)
  have hF10 : mFr 88 (mss (mss (mss (mss (mss (S) 82 1) 82 3) 82 4) 82 5) 82 6) (h) := mFr_s hF9 (by decide)
  have hF11 : mFr 89 (mss (mss (mss (mss (mss (S) 82 1) 82 3) 82 4) 82 5) 82 6) (h) := mFr_n hF10 (by decide)
  have hF12 : mFr 89 (mss (mss (mss (mss (mss (mss (S) 82 1) 82 3) 82 4) 82 5) 82 6) 82 8) (h) := mFr_s hF11 (by decide)
  have hF13 : mFr 90 (mss (mss (mss (mss (mss (mss (S) 82 1) 82 3) 82 4) 82 5) 82 6) 82 8) (h) := mFr_n hF12 (by decide)
  have hF14 : mFr 90 (mss (mss (mss (mss (mss (mss (mss (S) 82 1) 82 3) 82 4) 82 5) 82 6) 82 8) 82 9) (h) := mFr_s hF13 (by decide)
  have hF15 : mFr 91 (mss (mss (mss (mss (mss (mss (mss (S) 82 1) 82 3) 82 4) 82 5) 82 6) 82 8) 82 9) (h) := mFr_n hF14 (by decide)
  have hF16 : mFr 91 (mss (mss (mss (mss (mss (mss (mss (mss (S) 82 1) 82 3) 82 4) 82 5) 82 6) 82 8) 82 9) 82 11) (h) := mFr_s hF15 (by decide)
  have hF17 : mFr 92 (mss (mss (mss (mss (mss (mss (mss (mss (S) 82 1) 82 3) 82 4) 82 5) 82 6) 82 8) 82 9) 82 11) (h) := mFr_n hF16 (by decide)
  have hF18 : mFr 92 (mss (mss (mss (mss (mss (mss (mss (mss (mss (S) 82 1) 82 3) 82 4) 82 5) 82 6) 82 8) 82 9) 82 11) 82 12) (h) := mFr_s hF17 (by decide)
  have hF19 : mFr 93 (mss (mss (mss (mss (mss (mss (mss (mss (mss (S) 82 1) 82 3) 82 4) 82 5) 82 6) 82 8) 82 9) 82 11) 82 12) (h) := mFr_n hF18 (by decide)
  have hF20 : mFr 93 (mss (mss (mss (mss (mss (mss (mss (mss (mss (mss (S) 82 1) 82 3) 82 4) 82 5) 82 6) 82 8) 82 9) 82 11) 82 12) 82 14) (h) := mFr_s hF19 (by decide)
  have hF21 : mFr 94 (mss (mss (mss (mss (mss (mss (mss (mss (mss (mss (S) 82 1) 82 3) 82 4) 82 5) 82 6) 82 8) 82 9) 82 11) 82 12) 82 14) (h) := mFr_n hF20 (by decide)
  have hF22 : mFr 94 (mss (mss (mss (mss (mss (mss (mss (mss (mss (mss (mss (S) 82 1) 82 3) 82 4) 82 5) 82 6) 82 8) 82 9) 82 11) 82 12) 82 14) 82 15) (h) := mFr_s hF21 (by decide)
  have hF23 : mFr 95 (mss (mss (mss (mss (mss (mss (mss (mss (mss (mss (mss (S) 82 1) 82 3) 82 4) 82 5) 82 6) 82 8) 82 9) 82 11) 82 12) 82 14) 82 15) (h) := mFr_n hF22 (by decide)
  have hF24 : mFr 95 (mss (mss (mss (mss (mss (mss (mss (mss (mss (mss (mss (mss (S) 82 1) 82 3) 82 4) 82 5) 82 6) 82 8) 82 9) 82 11) 82 12) 82 14) 82 15) 82 16) (h) := mFr_s hF23 (by decide)
  have hF25 : mFr 96 (mss (mss (mss (mss (mss (mss (mss (mss (mss (mss (mss (mss (S) 82 1) 82 3) 82 4) 82 5) 82 6) 82 8) 82 9) 82 11) 82 12) 82 14) 82 15) 82 16) (h) := mFr_n hF24 (by decide)
  have hF26 : mFr 96 (mss (mss (mss (mss (mss (mss (mss (mss (mss (mss (mss (mss (mss (S) 82 1) 82 3) 82 4) 82 5) 82 6) 82 8) 82 9) 82 11) 82 12) 82 14) 82 15) 82 16) 82 18) (h) := mFr_s hF25 (by decide)
  have hF27 : mFr 97 (mss (mss (mss (mss (mss (mss (mss (mss (mss (mss (mss (mss (mss (S) 82 1) 82 3) 82 4) 82 5) 82 6) 82 8) 82 9) 82 11) 82 12) 82 14) 82 15) 82 16) 82 18) (h) := mFr_n hF26 (by decide)
  have hF28 : mFr 97 (mss (mss (mss (mss (mss (mss (mss (mss (mss (mss (mss (mss (mss (mss (S) 82 1) 82 3) 82 4) 82 5) 82 6) 82 8) 82 9) 82 11) 82 12) 82 14) 82 15) 82 16) 82 18) 82 19) (h) := mFr_s hF27 (by decide)
  have hF29 : mFr 98 (mss (mss (mss (mss (mss (mss (mss (mss (mss (mss (mss (mss (mss (mss (S) 82 1) 82 3) 82 4) 82 5) 82 6) 82 8) 82 9) 82 11) 82 12) 82 14) 82 15) 82 16) 82 18) 82 19) (h) := mFr_n hF28 (by decide)
  have hF30 : mFr 98 (mss (mss (mss (mss (mss (mss (mss (mss (mss (mss (mss (mss (mss (mss (mss (S) 82 1) 82 3) 82 4) 82 5) 82 6) 82 8) 82 9) 82 11) 82 12) 82 14) 82 15) 82 16) 82 18) 82 19) 82 20) (h) := mFr_s hF29 (by decide)
  have hF31 : mFr 99 (mss (mss (mss (mss (mss (mss (mss (mss (mss (mss (mss (mss (mss (mss (mss (S) 82 1) 82 3) 82 4) 82 5) 82 6) 82 8) 82 9) 82 11) 82 12) 82 14) 82 15) 82 16) 82 18) 82 19) 82 20) (h) := mFr_n hF30 (by decide)
  have hF32 : mFr 99 (mss (mss (mss (mss (mss (mss (mss (mss (mss (mss (mss (mss (mss (mss (mss (mss (S) 82 1) 82 3) 82 4) 82 5) 82 6) 82 8) 82 9) 82 11) 82 12) 82 14) 82 15) 82 16) 82 18) 82 19) 82 20) 82 21) (h) := mFr_s hF31 (by decide)
  have hF33 : mFr 100 (mss (mss (mss (mss (mss (mss (mss (mss (mss (mss (mss (mss (mss (mss (mss (mss (S) 82 1) 82 3) 82 4) 82 5) 82 6) 82 8) 82 9) 82 11) 82 12) 82 14) 82 15) 82 16) 82 18) 82 19) 82 20) 82 21) (h) := mFr_n hF32 (by decide)
  have hF34 : mFr 100 (mss (mss (mss (mss (mss (mss (mss (mss (mss (mss (mss (mss (mss (mss (mss (mss (mss (S) 82 1) 82 3) 82 4) 82 5) 82 6) 82 8) 82 9) 82 11) 82 12) 82 14) 82 15) 82 16) 82 18) 82 19) 82 20) 82 21) 82 22) (h) := mFr_s hF33 (by decide)
  have hF35 : mFr 101 (mss (mss (mss (mss (mss (mss (mss (mss (mss (mss (mss (mss (mss (mss (mss (mss (mss (S) 82 1) 82 3) 82 4) 82 5) 82 6) 82 8) 82 9) 82 11) 82 12) 82 14) 82 15) 82 16) 82 18) 82 19) 82 20) 82 21) 82 22) (h) := mFr_n hF34 (by decide)
  have hF36 : mFr 101 (mss (mss (mss (mss (mss (mss (mss (mss (mss (mss (mss (mss (mss (mss (mss (mss (mss (mss (S) 82 1) 82 3) 82 4) 82 5) 82 6) 82 8) 82 9) 82 11) 82 12) 82 14) 82 15) 82 16) 82 18) 82 19) 82 20) 82 21) 82 22) 82 23) (h) := mFr_s hF35 (by decide)
  have hF37 : mFr 101 (mss (mss (mss (mss (mss (mss (mss (mss (mss (mss (mss (mss (mss (mss (mss (mss (mss (mss (S) 82 1) 82 3) 82 4) 82 5) 82 6) 82 8) 82 9) 82 11) 82 12) 82 14) 82 15) 82 16) 82 18) 82 19) 82 20) 82 21) 82 22) 82 23) (msi (h) 85 0 1) := mFr_i hF36 (by decide)
  have hF38 : mFr 101 (mss (mss (mss (mss (mss (mss (mss (mss (mss (mss (mss (mss (mss (mss (mss (mss (mss (mss (S) 82 1) 82 3) 82 4) 82 5) 82 6) 82 8) 82 9) 82 11) 82 12) 82 14) 82 15) 82 16) 82 18) 82 19) 82 20) 82 21) 82 22) 82 23) (msi (msi (h) 85 0 1) 85 1 1) := mFr_i hF37 (by decide)
  exact hF38
set_option maxRecDepth 20000 in
set_option maxHeartbeats 4000000 in
theorem k_9 (g : mG) (l : Launch) (S : mB) (h : mH) (hF : mFr 83 S h) : mcn g l 0 mX9_init 82 83 S h 101 (kS9 S) (kH9 h) 18 3785 := by
  refine mcn_of (by decide) rfl (by decide) ?_
  refine mv_aload_n (n' := 1) (q := 0) dX9_init_0 rfl rfl rfl ?_
  refine mv_objInit (n' := 4) lo_X9_1 oi_im oi_code dX9_init_1 rfl ⟨Nat.le_of_ble_eq_true rfl, Nat.le_of_ble_eq_true rfl⟩ ?_
  refine mv_aload_n (n' := 5) (q := 0) dX9_init_4 rfl rfl rfl ?_
  refine mv_bipush (n' := 7) (v := 40) dX9_init_5 rfl (by decide) ?_
  refine mv_newI (n := 83) (N := 40) (n' := 9) rfl (by decide) (by decide) (by decide) hF ac_int dX9_init_7 rfl ⟨Nat.le_of_ble_eq_true rfl, Nat.le_of_ble_eq_true rfl⟩ ?_
  have hF1 : mFr 84 (S) (h) := mFr_n hF (by decide)
  refine mv_putr (a := 82) (k := 1) (t := 1) (n' := 12) cl9 tyX9_ok nmX9 rfl (by decide) (by decide) (by decide) rfl rfl rfl rfl ⟨rfl, rfl⟩ fl_X9_7 dX9_init_9 rfl ?_
  have hF2 : mFr 84 (mss (S) 82 1) (h) := mFr_s hF1 (by decide)
  refine mv_aload_n (n' := 13) (q := 0) dX9_init_12 rfl rfl rfl ?_
  refine mv_bipush (n' := 15) (v := 32) dX9_init_13 rfl (by decide) ?_
  refine mv_newI (n := 84) (N := 32) (n' := 17) rfl (by decide) (by decide) (by decide) hF2 ac_int dX9_init_15 rfl ⟨Nat.le_of_ble_eq_true rfl, Nat.le_of_ble_eq_true rfl⟩ ?_
  have hF3 : mFr 85 (mss (S) 82 1) (h) := mFr_n hF2 (by decide)
  refine mv_putr (a := 82) (k := 3) (t := 2) (n' := 20) cl9 tyX9_ok nmX9 rfl (by decide) (by decide) (by decide) rfl rfl rfl rfl ⟨rfl, rfl⟩ fl_X9_13 dX9_init_17 rfl ?_
  have hF4 : mFr 85 (mss (mss (S) 82 1) 82 3) (h) := mFr_s hF3 (by decide)
  refine mv_aload_n (n' := 21) (q := 0) dX9_init_20 rfl rfl rfl ?_
  refine mv_bipush (n' := 23) (v := 32) dX9_init_21 rfl (by decide) ?_
  refine mv_newI (n := 85) (N := 32) (n' := 25) rfl (by decide) (by decide) (by decide) hF4 ac_int dX9_init_23 rfl ⟨Nat.le_of_ble_eq_true rfl, Nat.le_of_ble_eq_true rfl⟩ ?_
  have hF5 : mFr 86 (mss (mss (S) 82 1) 82 3) (h) := mFr_n hF4 (by decide)
  refine mv_putr (a := 82) (k := 4) (t := 3) (n' := 28) cl9 tyX9_ok nmX9 rfl (by decide) (by decide) (by decide) rfl rfl rfl rfl ⟨rfl, rfl⟩ fl_X9_16 dX9_init_25 rfl ?_
  have hF6 : mFr 86 (mss (mss (mss (S) 82 1) 82 3) 82 4) (h) := mFr_s hF5 (by decide)
  refine mv_aload_n (n' := 29) (q := 0) dX9_init_28 rfl rfl rfl ?_
  refine mv_bipush (n' := 31) (v := 32) dX9_init_29 rfl (by decide) ?_
  refine mv_newI (n := 86) (N := 32) (n' := 33) rfl (by decide) (by decide) (by decide) hF6 ac_int dX9_init_31 rfl ⟨Nat.le_of_ble_eq_true rfl, Nat.le_of_ble_eq_true rfl⟩ ?_
  have hF7 : mFr 87 (mss (mss (mss (S) 82 1) 82 3) 82 4) (h) := mFr_n hF6 (by decide)
  refine mv_putr (a := 82) (k := 5) (t := 4) (n' := 36) cl9 tyX9_ok nmX9 rfl (by decide) (by decide) (by decide) rfl rfl rfl rfl ⟨rfl, rfl⟩ fl_X9_19 dX9_init_33 rfl ?_
  have hF8 : mFr 87 (mss (mss (mss (mss (S) 82 1) 82 3) 82 4) 82 5) (h) := mFr_s hF7 (by decide)
  refine mv_aload_n (n' := 37) (q := 0) dX9_init_36 rfl rfl rfl ?_
  refine mv_sipush (n' := 40) (v := 448) dX9_init_37 rfl (by decide) ?_
  refine mv_newI (n := 87) (N := 448) (n' := 42) rfl (by decide) (by decide) (by decide) hF8 ac_int dX9_init_40 rfl ⟨Nat.le_of_ble_eq_true rfl, Nat.le_of_ble_eq_true rfl⟩ ?_
  have hF9 : mFr 88 (mss (mss (mss (mss (S) 82 1) 82 3) 82 4) 82 5) (h) := mFr_n hF8 (by decide)
  refine mv_putr (a := 82) (k := 6) (t := 5) (n' := 45) cl9 tyX9_ok nmX9 rfl (by decide) (by decide) (by decide) rfl rfl rfl rfl ⟨rfl, rfl⟩ fl_X9_22 dX9_init_42 rfl ?_
  have hF10 : mFr 88 (mss (mss (mss (mss (mss (S) 82 1) 82 3) 82 4) 82 5) 82 6) (h) := mFr_s hF9 (by decide)
  refine mv_aload_n (n' := 46) (q := 0) dX9_init_45 rfl rfl rfl ?_
  refine mv_bipush (n' := 48) (v := 64) dX9_init_46 rfl (by decide) ?_
  refine mv_newI (n := 88) (N := 64) (n' := 50) rfl (by decide) (by decide) (by decide) hF10 ac_int dX9_init_48 rfl ⟨Nat.le_of_ble_eq_true rfl, Nat.le_of_ble_eq_true rfl⟩ ?_
  have hF11 : mFr 89 (mss (mss (mss (mss (mss (S) 82 1) 82 3) 82 4) 82 5) 82 6) (h) := mFr_n hF10 (by decide)
  refine mv_putr (a := 82) (k := 8) (t := 6) (n' := 53) cl9 tyX9_ok nmX9 rfl (by decide) (by decide) (by decide) rfl rfl rfl rfl ⟨rfl, rfl⟩ fl_X9_25 dX9_init_50 rfl ?_
  have hF12 : mFr 89 (mss (mss (mss (mss (mss (mss (S) 82 1) 82 3) 82 4) 82 5) 82 6) 82 8) (h) := mFr_s hF11 (by decide)
  refine mv_aload_n (n' := 54) (q := 0) dX9_init_53 rfl rfl rfl ?_
  refine mv_iconst (n' := 55) (v := 2) dX9_init_54 rfl (by decide) ?_
  refine mv_newZ (n := 89) (n' := 57) rfl (by decide) (by decide) hF12 ac_bool dX9_init_55 rfl ⟨Nat.le_of_ble_eq_true rfl, Nat.le_of_ble_eq_true rfl⟩ ?_
  have hF13 : mFr 90 (mss (mss (mss (mss (mss (mss (S) 82 1) 82 3) 82 4) 82 5) 82 6) 82 8) (h) := mFr_n hF12 (by decide)
  refine mv_putr (a := 82) (k := 9) (t := 7) (n' := 60) cl9 tyX9_ok nmX9 rfl (by decide) (by decide) (by decide) rfl rfl rfl rfl ⟨rfl, rfl⟩ fl_X9_28 dX9_init_57 rfl ?_
  have hF14 : mFr 90 (mss (mss (mss (mss (mss (mss (mss (S) 82 1) 82 3) 82 4) 82 5) 82 6) 82 8) 82 9) (h) := mFr_s hF13 (by decide)
  refine mv_aload_n (n' := 61) (q := 0) dX9_init_60 rfl rfl rfl ?_
  refine mv_bipush (n' := 63) (v := 6) dX9_init_61 rfl (by decide) ?_
  refine mv_newI (n := 90) (N := 6) (n' := 65) rfl (by decide) (by decide) (by decide) hF14 ac_int dX9_init_63 rfl ⟨Nat.le_of_ble_eq_true rfl, Nat.le_of_ble_eq_true rfl⟩ ?_
  have hF15 : mFr 91 (mss (mss (mss (mss (mss (mss (mss (S) 82 1) 82 3) 82 4) 82 5) 82 6) 82 8) 82 9) (h) := mFr_n hF14 (by decide)
  refine mv_putr (a := 82) (k := 11) (t := 8) (n' := 68) cl9 tyX9_ok nmX9 rfl (by decide) (by decide) (by decide) rfl rfl rfl rfl ⟨rfl, rfl⟩ fl_X9_32 dX9_init_65 rfl ?_
  have hF16 : mFr 91 (mss (mss (mss (mss (mss (mss (mss (mss (S) 82 1) 82 3) 82 4) 82 5) 82 6) 82 8) 82 9) 82 11) (h) := mFr_s hF15 (by decide)
  refine mv_aload_n (n' := 69) (q := 0) dX9_init_68 rfl rfl rfl ?_
  refine mv_bipush (n' := 71) (v := 6) dX9_init_69 rfl (by decide) ?_
  refine mv_newI (n := 91) (N := 6) (n' := 73) rfl (by decide) (by decide) (by decide) hF16 ac_int dX9_init_71 rfl ⟨Nat.le_of_ble_eq_true rfl, Nat.le_of_ble_eq_true rfl⟩ ?_
  have hF17 : mFr 92 (mss (mss (mss (mss (mss (mss (mss (mss (S) 82 1) 82 3) 82 4) 82 5) 82 6) 82 8) 82 9) 82 11) (h) := mFr_n hF16 (by decide)
  refine mv_putr (a := 82) (k := 12) (t := 9) (n' := 76) cl9 tyX9_ok nmX9 rfl (by decide) (by decide) (by decide) rfl rfl rfl rfl ⟨rfl, rfl⟩ fl_X9_35 dX9_init_73 rfl ?_
  have hF18 : mFr 92 (mss (mss (mss (mss (mss (mss (mss (mss (mss (S) 82 1) 82 3) 82 4) 82 5) 82 6) 82 8) 82 9) 82 11) 82 12) (h) := mFr_s hF17 (by decide)
  refine mv_aload_n (n' := 77) (q := 0) dX9_init_76 rfl rfl rfl ?_
  refine mv_bipush (n' := 79) (v := 40) dX9_init_77 rfl (by decide) ?_
  refine mv_newI (n := 92) (N := 40) (n' := 81) rfl (by decide) (by decide) (by decide) hF18 ac_int dX9_init_79 rfl ⟨Nat.le_of_ble_eq_true rfl, Nat.le_of_ble_eq_true rfl⟩ ?_
  have hF19 : mFr 93 (mss (mss (mss (mss (mss (mss (mss (mss (mss (S) 82 1) 82 3) 82 4) 82 5) 82 6) 82 8) 82 9) 82 11) 82 12) (h) := mFr_n hF18 (by decide)
  refine mv_putr (a := 82) (k := 14) (t := 10) (n' := 84) cl9 tyX9_ok nmX9 rfl (by decide) (by decide) (by decide) rfl rfl rfl rfl ⟨rfl, rfl⟩ fl_X9_38 dX9_init_81 rfl ?_
  have hF20 : mFr 93 (mss (mss (mss (mss (mss (mss (mss (mss (mss (mss (S) 82 1) 82 3) 82 4) 82 5) 82 6) 82 8) 82 9) 82 11) 82 12) 82 14) (h) := mFr_s hF19 (by decide)
  refine mv_aload_n (n' := 85) (q := 0) dX9_init_84 rfl rfl rfl ?_
  refine mv_iconst (n' := 86) (v := 4) dX9_init_85 rfl (by decide) ?_
  refine mv_newI (n := 93) (N := 4) (n' := 88) rfl (by decide) (by decide) (by decide) hF20 ac_int dX9_init_86 rfl ⟨Nat.le_of_ble_eq_true rfl, Nat.le_of_ble_eq_true rfl⟩ ?_
  have hF21 : mFr 94 (mss (mss (mss (mss (mss (mss (mss (mss (mss (mss (S) 82 1) 82 3) 82 4) 82 5) 82 6) 82 8) 82 9) 82 11) 82 12) 82 14) (h) := mFr_n hF20 (by decide)
  refine mv_putr (a := 82) (k := 15) (t := 11) (n' := 91) cl9 tyX9_ok nmX9 rfl (by decide) (by decide) (by decide) rfl rfl rfl rfl ⟨rfl, rfl⟩ fl_X9_41 dX9_init_88 rfl ?_
  have hF22 : mFr 94 (mss (mss (mss (mss (mss (mss (mss (mss (mss (mss (mss (S) 82 1) 82 3) 82 4) 82 5) 82 6) 82 8) 82 9) 82 11) 82 12) 82 14) 82 15) (h) := mFr_s hF21 (by decide)
  refine mv_aload_n (n' := 92) (q := 0) dX9_init_91 rfl rfl rfl ?_
  refine mv_sipush (n' := 95) (v := 1000) dX9_init_92 rfl (by decide) ?_
  refine mv_newI (n := 94) (N := 1000) (n' := 97) rfl (by decide) (by decide) (by decide) hF22 ac_int dX9_init_95 rfl ⟨Nat.le_of_ble_eq_true rfl, Nat.le_of_ble_eq_true rfl⟩ ?_
  have hF23 : mFr 95 (mss (mss (mss (mss (mss (mss (mss (mss (mss (mss (mss (S) 82 1) 82 3) 82 4) 82 5) 82 6) 82 8) 82 9) 82 11) 82 12) 82 14) 82 15) (h) := mFr_n hF22 (by decide)
  refine mv_putr (a := 82) (k := 16) (t := 12) (n' := 100) cl9 tyX9_ok nmX9 rfl (by decide) (by decide) (by decide) rfl rfl rfl rfl ⟨rfl, rfl⟩ fl_X9_44 dX9_init_97 rfl ?_
  have hF24 : mFr 95 (mss (mss (mss (mss (mss (mss (mss (mss (mss (mss (mss (mss (S) 82 1) 82 3) 82 4) 82 5) 82 6) 82 8) 82 9) 82 11) 82 12) 82 14) 82 15) 82 16) (h) := mFr_s hF23 (by decide)
  refine mv_aload_n (n' := 101) (q := 0) dX9_init_100 rfl rfl rfl ?_
  refine mv_sipush (n' := 104) (v := 1000) dX9_init_101 rfl (by decide) ?_
  refine mv_newI (n := 95) (N := 1000) (n' := 106) rfl (by decide) (by decide) (by decide) hF24 ac_int dX9_init_104 rfl ⟨Nat.le_of_ble_eq_true rfl, Nat.le_of_ble_eq_true rfl⟩ ?_
  have hF25 : mFr 96 (mss (mss (mss (mss (mss (mss (mss (mss (mss (mss (mss (mss (S) 82 1) 82 3) 82 4) 82 5) 82 6) 82 8) 82 9) 82 11) 82 12) 82 14) 82 15) 82 16) (h) := mFr_n hF24 (by decide)
  refine mv_putr (a := 82) (k := 18) (t := 13) (n' := 109) cl9 tyX9_ok nmX9 rfl (by decide) (by decide) (by decide) rfl rfl rfl rfl ⟨rfl, rfl⟩ fl_X9_47 dX9_init_106 rfl ?_
  have hF26 : mFr 96 (mss (mss (mss (mss (mss (mss (mss (mss (mss (mss (mss (mss (mss (S) 82 1) 82 3) 82 4) 82 5) 82 6) 82 8) 82 9) 82 11) 82 12) 82 14) 82 15) 82 16) 82 18) (h) := mFr_s hF25 (by decide)
  refine mv_aload_n (n' := 110) (q := 0) dX9_init_109 rfl rfl rfl ?_
  refine mv_sipush (n' := 113) (v := 1000) dX9_init_110 rfl (by decide) ?_
  refine mv_newI (n := 96) (N := 1000) (n' := 115) rfl (by decide) (by decide) (by decide) hF26 ac_int dX9_init_113 rfl ⟨Nat.le_of_ble_eq_true rfl, Nat.le_of_ble_eq_true rfl⟩ ?_
  have hF27 : mFr 97 (mss (mss (mss (mss (mss (mss (mss (mss (mss (mss (mss (mss (mss (S) 82 1) 82 3) 82 4) 82 5) 82 6) 82 8) 82 9) 82 11) 82 12) 82 14) 82 15) 82 16) 82 18) (h) := mFr_n hF26 (by decide)
  refine mv_putr (a := 82) (k := 19) (t := 14) (n' := 118) cl9 tyX9_ok nmX9 rfl (by decide) (by decide) (by decide) rfl rfl rfl rfl ⟨rfl, rfl⟩ fl_X9_50 dX9_init_115 rfl ?_
  have hF28 : mFr 97 (mss (mss (mss (mss (mss (mss (mss (mss (mss (mss (mss (mss (mss (mss (S) 82 1) 82 3) 82 4) 82 5) 82 6) 82 8) 82 9) 82 11) 82 12) 82 14) 82 15) 82 16) 82 18) 82 19) (h) := mFr_s hF27 (by decide)
  refine mv_aload_n (n' := 119) (q := 0) dX9_init_118 rfl rfl rfl ?_
  refine mv_iconst (n' := 120) (v := 4) dX9_init_119 rfl (by decide) ?_
  refine mv_newI (n := 97) (N := 4) (n' := 122) rfl (by decide) (by decide) (by decide) hF28 ac_int dX9_init_120 rfl ⟨Nat.le_of_ble_eq_true rfl, Nat.le_of_ble_eq_true rfl⟩ ?_
  have hF29 : mFr 98 (mss (mss (mss (mss (mss (mss (mss (mss (mss (mss (mss (mss (mss (mss (S) 82 1) 82 3) 82 4) 82 5) 82 6) 82 8) 82 9) 82 11) 82 12) 82 14) 82 15) 82 16) 82 18) 82 19) (h) := mFr_n hF28 (by decide)
  refine mv_putr (a := 82) (k := 20) (t := 15) (n' := 125) cl9 tyX9_ok nmX9 rfl (by decide) (by decide) (by decide) rfl rfl rfl rfl ⟨rfl, rfl⟩ fl_X9_53 dX9_init_122 rfl ?_
  have hF30 : mFr 98 (mss (mss (mss (mss (mss (mss (mss (mss (mss (mss (mss (mss (mss (mss (mss (S) 82 1) 82 3) 82 4) 82 5) 82 6) 82 8) 82 9) 82 11) 82 12) 82 14) 82 15) 82 16) 82 18) 82 19) 82 20) (h) := mFr_s hF29 (by decide)
  refine mv_aload_n (n' := 126) (q := 0) dX9_init_125 rfl rfl rfl ?_
  refine mv_iconst (n' := 127) (v := 5) dX9_init_126 rfl (by decide) ?_
  refine mv_newI (n := 98) (N := 5) (n' := 129) rfl (by decide) (by decide) (by decide) hF30 ac_int dX9_init_127 rfl ⟨Nat.le_of_ble_eq_true rfl, Nat.le_of_ble_eq_true rfl⟩ ?_
  have hF31 : mFr 99 (mss (mss (mss (mss (mss (mss (mss (mss (mss (mss (mss (mss (mss (mss (mss (S) 82 1) 82 3) 82 4) 82 5) 82 6) 82 8) 82 9) 82 11) 82 12) 82 14) 82 15) 82 16) 82 18) 82 19) 82 20) (h) := mFr_n hF30 (by decide)
  refine mv_putr (a := 82) (k := 21) (t := 16) (n' := 132) cl9 tyX9_ok nmX9 rfl (by decide) (by decide) (by decide) rfl rfl rfl rfl ⟨rfl, rfl⟩ fl_X9_56 dX9_init_129 rfl ?_
  have hF32 : mFr 99 (mss (mss (mss (mss (mss (mss (mss (mss (mss (mss (mss (mss (mss (mss (mss (mss (S) 82 1) 82 3) 82 4) 82 5) 82 6) 82 8) 82 9) 82 11) 82 12) 82 14) 82 15) 82 16) 82 18) 82 19) 82 20) 82 21) (h) := mFr_s hF31 (by decide)
  refine mv_aload_n (n' := 133) (q := 0) dX9_init_132 rfl rfl rfl ?_
  refine mv_bipush (n' := 135) (v := 6) dX9_init_133 rfl (by decide) ?_
  refine mv_newI (n := 99) (N := 6) (n' := 137) rfl (by decide) (by decide) (by decide) hF32 ac_int dX9_init_135 rfl ⟨Nat.le_of_ble_eq_true rfl, Nat.le_of_ble_eq_true rfl⟩ ?_
  have hF33 : mFr 100 (mss (mss (mss (mss (mss (mss (mss (mss (mss (mss (mss (mss (mss (mss (mss (mss (S) 82 1) 82 3) 82 4) 82 5) 82 6) 82 8) 82 9) 82 11) 82 12) 82 14) 82 15) 82 16) 82 18) 82 19) 82 20) 82 21) (h) := mFr_n hF32 (by decide)
  refine mv_putr (a := 82) (k := 22) (t := 17) (n' := 140) cl9 tyX9_ok nmX9 rfl (by decide) (by decide) (by decide) rfl rfl rfl rfl ⟨rfl, rfl⟩ fl_X9_59 dX9_init_137 rfl ?_
  have hF34 : mFr 100 (mss (mss (mss (mss (mss (mss (mss (mss (mss (mss (mss (mss (mss (mss (mss (mss (mss (S) 82 1) 82 3) 82 4) 82 5) 82 6) 82 8) 82 9) 82 11) 82 12) 82 14) 82 15) 82 16) 82 18) 82 19) 82 20) 82 21) 82 22) (h) := mFr_s hF33 (by decide)
  refine mv_aload_n (n' := 141) (q := 0) dX9_init_140 rfl rfl rfl ?_
  refine mv_bipush (n' := 143) (v := 64) dX9_init_141 rfl (by decide) ?_
  refine mv_newI (n := 100) (N := 64) (n' := 145) rfl (by decide) (by decide) (by decide) hF34 ac_int dX9_init_143 rfl ⟨Nat.le_of_ble_eq_true rfl, Nat.le_of_ble_eq_true rfl⟩ ?_
  have hF35 : mFr 101 (mss (mss (mss (mss (mss (mss (mss (mss (mss (mss (mss (mss (mss (mss (mss (mss (mss (S) 82 1) 82 3) 82 4) 82 5) 82 6) 82 8) 82 9) 82 11) 82 12) 82 14) 82 15) 82 16) 82 18) 82 19) 82 20) 82 21) 82 22) (h) := mFr_n hF34 (by decide)
  refine mv_putr (a := 82) (k := 23) (t := 18) (n' := 148) cl9 tyX9_ok nmX9 rfl (by decide) (by decide) (by decide) rfl rfl rfl rfl ⟨rfl, rfl⟩ fl_X9_62 dX9_init_145 rfl ?_
  have hF36 : mFr 101 (mss (mss (mss (mss (mss (mss (mss (mss (mss (mss (mss (mss (mss (mss (mss (mss (mss (mss (S) 82 1) 82 3) 82 4) 82 5) 82 6) 82 8) 82 9) 82 11) 82 12) 82 14) 82 15) 82 16) 82 18) 82 19) 82 20) 82 21) 82 22) 82 23) (h) := mFr_s hF35 (by decide)
  refine mv_aload_n (n' := 149) (q := 0) dX9_init_148 rfl rfl rfl ?_
  refine mv_getr (a := 82) (k := 4) (t := 3) (n' := 152) cl9 rfl (by decide) (by decide) rfl (by first | rfl | simp [mss, kS0, kS1, kS2, kS3, kS4, kS5, kS6, kS7]) rfl fl_X9_16 dX9_init_149 rfl ?_
  refine mv_iconst (n' := 153) (v := 0) dX9_init_152 rfl (by decide) ?_
  refine mv_iconst (n' := 154) (v := 1) dX9_init_153 rfl (by decide) ?_
  refine mv_iast (a := 85) (j := 0) (N := 32) (n' := 155) rfl (by decide) (by decide) (by decide) (show ¬ ((0 : Int32) < 0 ∨ 32 ≤ (0 : Int32).toNatClampNeg) by decide) dX9_init_154 rfl ?_
  have hF37 : mFr 101 (mss (mss (mss (mss (mss (mss (mss (mss (mss (mss (mss (mss (mss (mss (mss (mss (mss (mss (S) 82 1) 82 3) 82 4) 82 5) 82 6) 82 8) 82 9) 82 11) 82 12) 82 14) 82 15) 82 16) 82 18) 82 19) 82 20) 82 21) 82 22) 82 23) (msi (h) 85 0 1) := mFr_i hF36 (by decide)
  refine mv_aload_n (n' := 156) (q := 0) dX9_init_155 rfl rfl rfl ?_
  refine mv_getr (a := 82) (k := 4) (t := 3) (n' := 159) cl9 rfl (by decide) (by decide) rfl (by first | rfl | simp [mss, kS0, kS1, kS2, kS3, kS4, kS5, kS6, kS7]) rfl fl_X9_16 dX9_init_156 rfl ?_
  refine mv_iconst (n' := 160) (v := 1) dX9_init_159 rfl (by decide) ?_
  refine mv_iconst (n' := 161) (v := 1) dX9_init_160 rfl (by decide) ?_
  refine mv_iast (a := 85) (j := 1) (N := 32) (n' := 162) rfl (by decide) (by decide) (by decide) (show ¬ ((1 : Int32) < 0 ∨ 32 ≤ (1 : Int32).toNatClampNeg) by decide) dX9_init_161 rfl ?_
  have hF38 : mFr 101 (mss (mss (mss (mss (mss (mss (mss (mss (mss (mss (mss (mss (mss (mss (mss (mss (mss (mss (S) 82 1) 82 3) 82 4) 82 5) 82 6) 82 8) 82 9) 82 11) 82 12) 82 14) 82 15) 82 16) 82 18) 82 19) 82 20) 82 21) 82 22) 82 23) (msi (msi (h) 85 0 1) 85 1 1) := mFr_i hF37 (by decide)
  exact mv_ret dX9_init_162 rfl
theorem full_9 : mFull 101 (kS9 (kS8 (fun _ _ => false))) := by unfold mFull; decide +kernel
