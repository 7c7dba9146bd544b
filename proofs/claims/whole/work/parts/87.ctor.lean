/-! ===== the constructors of the parts ===== -/
def r_X3_init (g : GG) (ib : Nat) : List va_E := [.inr (2, [.int 0, .ref (gb g + (ib + 1)), .ref (gb g + (ib + 2)), .ref (gb g + (ib + 3)), .ref (gb g + (ib + 4))]),
  .inl (gc g 0, 10, .inl (fun _ => 0)),
  .inl (gc g 0, 10, .inl (fun _ => 0)),
  .inl (gc g 0, 10, .inl (fun _ => 0)),
  .inl (gc g 0, 10, .inl (fun _ => 0))]
set_option maxRecDepth 100000 in
set_option maxHeartbeats 4000000 in
theorem cn_X3 (g : GG) (zs : Nat × Nat) (ib : Nat) : Cn g zs yX3_init cX3_init 1 none 1 ib 4 40 [.ref (gb g + ib)] [.inr (2, [.int 0, .null, .null, .null, .null])] (r_X3_init g ib) none := by
  refine cn_V (pcF := 36) (lvF := []) (by decide +kernel) (Nat.le_of_ble_eq_true rfl) dX3_init_36 (show Gn g zs RX3 "<init>" cX3_init 1 1 ib 4 40 0 [(0, .ref (gb g + ib))] [] [.inr (2, [.int 0, .null, .null, .null, .null])] (36, [], [], r_X3_init g ib) from ?_)
  refine n_aload_n dX3_init_0 0 rfl ?_
  refine n_obj ob_X3 (by decide) (Nat.le_of_ble_eq_true rfl) dX3_init_1 ?_
  refine n_aload_n dX3_init_4 0 rfl ?_
  refine n_bipush (v := 10) dX3_init_5 rfl ?_
  refine n_newI (N := 10) (j := ib + 1) (kc := 3) (ks := 30) (by decide) (by decide) (by decide) rfl ac_int dX3_init_7 ?_
  refine n_putF (q := 0) (j := ib) fl_X3_9 fd_X3_1 rfl rfl rfl rfl rfl (Nat.le_of_ble_eq_true rfl) dX3_init_9 ?_
  refine n_aload_n dX3_init_12 0 rfl ?_
  refine n_bipush (v := 10) dX3_init_13 rfl ?_
  refine n_newI (N := 10) (j := ib + 2) (kc := 2) (ks := 20) (by decide) (by decide) (by decide) rfl ac_int dX3_init_15 ?_
  refine n_putF (q := 0) (j := ib) fl_X3_15 fd_X3_2 rfl rfl rfl rfl rfl (Nat.le_of_ble_eq_true rfl) dX3_init_17 ?_
  refine n_aload_n dX3_init_20 0 rfl ?_
  refine n_bipush (v := 10) dX3_init_21 rfl ?_
  refine n_newI (N := 10) (j := ib + 3) (kc := 1) (ks := 10) (by decide) (by decide) (by decide) rfl ac_int dX3_init_23 ?_
  refine n_putF (q := 0) (j := ib) fl_X3_18 fd_X3_3 rfl rfl rfl rfl rfl (Nat.le_of_ble_eq_true rfl) dX3_init_25 ?_
  refine n_aload_n dX3_init_28 0 rfl ?_
  refine n_bipush (v := 10) dX3_init_29 rfl ?_
  refine n_newI (N := 10) (j := ib + 4) (kc := 0) (ks := 0) (by decide) (by decide) (by decide) rfl ac_int dX3_init_31 ?_
  refine n_putF (q := 0) (j := ib) fl_X3_21 fd_X3_4 rfl rfl rfl rfl rfl (Nat.le_of_ble_eq_true rfl) dX3_init_33 ?_
  refine n_lv [] rfl ?_
  exact n_end rfl
def r_X4_init (g : GG) (ib : Nat) : List va_E := [.inr (3, [.int 0, .int 0, .int 0, .int 0, .int 0, .int 0, .int 0, .int 0, .ref (gb g + (ib + 1))]),
  .inl (gc g 0, 60, .inl (fun _ => 0))]
set_option maxRecDepth 100000 in
set_option maxHeartbeats 4000000 in
theorem cn_X4 (g : GG) (zs : Nat × Nat) (ib : Nat) : Cn g zs yX4_init cX4_init 1 none 1 ib 1 60 [.ref (gb g + ib)] [.inr (3, [.int 0, .int 0, .int 0, .int 0, .int 0, .int 0, .int 0, .int 0, .null])] (r_X4_init g ib) none := by
  refine cn_V (pcF := 12) (lvF := []) (by decide +kernel) (Nat.le_of_ble_eq_true rfl) dX4_init_12 (show Gn g zs RX4 "<init>" cX4_init 1 1 ib 1 60 0 [(0, .ref (gb g + ib))] [] [.inr (3, [.int 0, .int 0, .int 0, .int 0, .int 0, .int 0, .int 0, .int 0, .null])] (12, [], [], r_X4_init g ib) from ?_)
  refine n_aload_n dX4_init_0 0 rfl ?_
  refine n_obj ob_X4 (by decide) (Nat.le_of_ble_eq_true rfl) dX4_init_1 ?_
  refine n_aload_n dX4_init_4 0 rfl ?_
  refine n_bipush (v := 60) dX4_init_5 rfl ?_
  refine n_newI (N := 60) (j := ib + 1) (kc := 0) (ks := 0) (by decide) (by decide) (by decide) rfl ac_int dX4_init_7 ?_
  refine n_putF (q := 0) (j := ib) fl_X4_11 fd_X4_8 rfl rfl rfl rfl rfl (Nat.le_of_ble_eq_true rfl) dX4_init_9 ?_
  refine n_lv [] rfl ?_
  exact n_end rfl
def r_X5_init (g : GG) (ib : Nat) : List va_E := [.inr (4, [.int 0, .int 0, .int 0, .ref (gb g + (ib + 1)), .ref (gb g + (ib + 2)), .ref (gb g + (ib + 3)), .ref (gb g + (ib + 4)), .ref (gb g + (ib + 5))]),
  .inl (gc g 0, 60, .inl (fun _ => 0)),
  .inl (gc g 0, 60, .inl (fun _ => 0)),
  .inl (gc g 0, 60, .inl (fun _ => 0)),
  .inl (gc g 0, 60, .inl (fun _ => 0)),
  .inl (gc g 0, 60, .inl (fun _ => 0))]
set_option maxRecDepth 100000 in
set_option maxHeartbeats 4000000 in
theorem cn_X5 (g : GG) (zs : Nat × Nat) (ib : Nat) : Cn g zs yX5_init cX5_init 1 none 1 ib 5 300 [.ref (gb g + ib)] [.inr (4, [.int 0, .int 0, .int 0, .null, .null, .null, .null, .null])] (r_X5_init g ib) none := by
  refine cn_V (pcF := 44) (lvF := []) (by decide +kernel) (Nat.le_of_ble_eq_true rfl) dX5_init_44 (show Gn g zs RX5 "<init>" cX5_init 1 1 ib 5 300 0 [(0, .ref (gb g + ib))] [] [.inr (4, [.int 0, .int 0, .int 0, .null, .null, .null, .null, .null])] (44, [], [], r_X5_init g ib) from ?_)
  refine n_aload_n dX5_init_0 0 rfl ?_
  refine n_obj ob_X5 (by decide) (Nat.le_of_ble_eq_true rfl) dX5_init_1 ?_
  refine n_aload_n dX5_init_4 0 rfl ?_
  refine n_bipush (v := 60) dX5_init_5 rfl ?_
  refine n_newI (N := 60) (j := ib + 1) (kc := 4) (ks := 240) (by decide) (by decide) (by decide) rfl ac_int dX5_init_7 ?_
  refine n_putF (q := 0) (j := ib) fl_X5_9 fd_X5_3 rfl rfl rfl rfl rfl (Nat.le_of_ble_eq_true rfl) dX5_init_9 ?_
  refine n_aload_n dX5_init_12 0 rfl ?_
  refine n_bipush (v := 60) dX5_init_13 rfl ?_
  refine n_newI (N := 60) (j := ib + 2) (kc := 3) (ks := 180) (by decide) (by decide) (by decide) rfl ac_int dX5_init_15 ?_
  refine n_putF (q := 0) (j := ib) fl_X5_13 fd_X5_4 rfl rfl rfl rfl rfl (Nat.le_of_ble_eq_true rfl) dX5_init_17 ?_
  refine n_aload_n dX5_init_20 0 rfl ?_
  refine n_bipush (v := 60) dX5_init_21 rfl ?_
  refine n_newI (N := 60) (j := ib + 3) (kc := 2) (ks := 120) (by decide) (by decide) (by decide) rfl ac_int dX5_init_23 ?_
  refine n_putF (q := 0) (j := ib) fl_X5_16 fd_X5_5 rfl rfl rfl rfl rfl (Nat.le_of_ble_eq_true rfl) dX5_init_25 ?_
  refine n_aload_n dX5_init_28 0 rfl ?_
  refine n_bipush (v := 60) dX5_init_29 rfl ?_
  refine n_newI (N := 60) (j := ib + 4) (kc := 1) (ks := 60) (by decide) (by decide) (by decide) rfl ac_int dX5_init_31 ?_
  refine n_putF (q := 0) (j := ib) fl_X5_19 fd_X5_6 rfl rfl rfl rfl rfl (Nat.le_of_ble_eq_true rfl) dX5_init_33 ?_
  refine n_aload_n dX5_init_36 0 rfl ?_
  refine n_bipush (v := 60) dX5_init_37 rfl ?_
  refine n_newI (N := 60) (j := ib + 5) (kc := 0) (ks := 0) (by decide) (by decide) (by decide) rfl ac_int dX5_init_39 ?_
  refine n_putF (q := 0) (j := ib) fl_X5_22 fd_X5_7 rfl rfl rfl rfl rfl (Nat.le_of_ble_eq_true rfl) dX5_init_41 ?_
  refine n_lv [] rfl ?_
  exact n_end rfl
def r_X6_init (g : GG) (ib : Nat) (ra : Nat) : List va_E := [.inr (5, [.ref ra, .ref (gb g + (ib + 1)), .int 0]),
  .inl (gc g 0, 3, .inl (fun _ => 0))]
set_option maxRecDepth 100000 in
set_option maxHeartbeats 4000000 in
theorem cn_X6 (g : GG) (zs : Nat × Nat) (ib : Nat) (ra : Nat) : Cn g zs yX6_init cX6_init 2 none 1 ib 1 3 [.ref (gb g + ib), .ref ra] [.inr (5, [.null, .null, .int 0])] (r_X6_init g ib ra) none := by
  refine cn_V (pcF := 16) (lvF := []) (by decide +kernel) (Nat.le_of_ble_eq_true rfl) dX6_init_16 (show Gn g zs RX6 "<init>" cX6_init 2 1 ib 1 3 0 [(0, .ref (gb g + ib)), (1, .ref ra)] [] [.inr (5, [.null, .null, .int 0])] (16, [], [], r_X6_init g ib ra) from ?_)
  refine n_aload_n dX6_init_0 0 rfl ?_
  refine n_obj ob_X6 (by decide) (Nat.le_of_ble_eq_true rfl) dX6_init_1 ?_
  refine n_aload_n dX6_init_4 0 rfl ?_
  refine n_iconst (v := 3) dX6_init_5 rfl ?_
  refine n_newI (N := 3) (j := ib + 1) (kc := 0) (ks := 0) (by decide) (by decide) (by decide) rfl ac_int dX6_init_6 ?_
  refine n_putF (q := 0) (j := ib) fl_X6_11 fd_X6_1 rfl rfl rfl rfl rfl (Nat.le_of_ble_eq_true rfl) dX6_init_8 ?_
  refine n_aload_n dX6_init_11 0 rfl ?_
  refine n_aload_n dX6_init_12 1 rfl ?_
  refine n_putF (q := 0) (j := ib) fl_X6_15 fd_X6_0 rfl rfl rfl rfl rfl (Nat.le_of_ble_eq_true rfl) dX6_init_13 ?_
  refine n_lv [] rfl ?_
  exact n_end rfl
def r_X1_init (g : GG) (ib : Nat) (ra : Nat) : List va_E := [.inr (1, [.ref ra, .int 0])]
set_option maxRecDepth 100000 in
set_option maxHeartbeats 4000000 in
theorem cn_X1 (g : GG) (zs : Nat × Nat) (ib : Nat) (ra : Nat) : Cn g zs yX1_init cX1_init 2 none 1 ib 0 0 [.ref (gb g + ib), .ref ra] [.inr (1, [.null, .int 0])] (r_X1_init g ib ra) none := by
  refine cn_V (pcF := 9) (lvF := []) (by decide +kernel) (Nat.le_of_ble_eq_true rfl) dX1_init_9 (show Gn g zs RX1 "<init>" cX1_init 2 1 ib 0 0 0 [(0, .ref (gb g + ib)), (1, .ref ra)] [] [.inr (1, [.null, .int 0])] (9, [], [], r_X1_init g ib ra) from ?_)
  refine n_aload_n dX1_init_0 0 rfl ?_
  refine n_obj ob_X1 (by decide) (Nat.le_of_ble_eq_true rfl) dX1_init_1 ?_
  refine n_aload_n dX1_init_4 0 rfl ?_
  refine n_aload_n dX1_init_5 1 rfl ?_
  refine n_putF (q := 0) (j := ib) fl_X1_9 fd_X1_0 rfl rfl rfl rfl rfl (Nat.le_of_ble_eq_true rfl) dX1_init_6 ?_
  refine n_lv [] rfl ?_
  exact n_end rfl
def r_X7_init (g : GG) (ib : Nat) : List va_E := [.inr (6, [.int 0, .int 0, .ref (gb g + (ib + 1)), .ref (gb g + (ib + 2)), .ref (gb g + (ib + 3)), .ref (gb g + (ib + 4)), .ref (gb g + (ib + 5))]),
  .inl (gc g 0, 25, .inl (fun _ => 0)),
  .inl (gc g 0, 110, .inl (fun _ => 0)),
  .inl (gc g 0, 110, .inl (fun _ => 0)),
  .inl (gc g 0, 110, .inl (fun _ => 0)),
  .inl (gc g 0, 110, .inl (fun _ => 0))]
set_option maxRecDepth 100000 in
set_option maxHeartbeats 4000000 in
theorem cn_X7 (g : GG) (zs : Nat × Nat) (ib : Nat) : Cn g zs yX7_init cX7_init 1 none 1 ib 5 465 [.ref (gb g + ib)] [.inr (6, [.int 0, .int 0, .null, .null, .null, .null, .null])] (r_X7_init g ib) none := by
  refine cn_V (pcF := 44) (lvF := []) (by decide +kernel) (Nat.le_of_ble_eq_true rfl) dX7_init_44 (show Gn g zs RX7 "<init>" cX7_init 1 1 ib 5 465 0 [(0, .ref (gb g + ib))] [] [.inr (6, [.int 0, .int 0, .null, .null, .null, .null, .null])] (44, [], [], r_X7_init g ib) from ?_)
  refine n_aload_n dX7_init_0 0 rfl ?_
  refine n_obj ob_X7 (by decide) (Nat.le_of_ble_eq_true rfl) dX7_init_1 ?_
  refine n_aload_n dX7_init_4 0 rfl ?_
  refine n_bipush (v := 25) dX7_init_5 rfl ?_
  refine n_newI (N := 25) (j := ib + 1) (kc := 4) (ks := 440) (by decide) (by decide) (by decide) rfl ac_int dX7_init_7 ?_
  refine n_putF (q := 0) (j := ib) fl_X7_9 fd_X7_2 rfl rfl rfl rfl rfl (Nat.le_of_ble_eq_true rfl) dX7_init_9 ?_
  refine n_aload_n dX7_init_12 0 rfl ?_
  refine n_bipush (v := 110) dX7_init_13 rfl ?_
  refine n_newI (N := 110) (j := ib + 2) (kc := 3) (ks := 330) (by decide) (by decide) (by decide) rfl ac_int dX7_init_15 ?_
  refine n_put (q := 0) (j := ib) fl_X7_15 rfl rfl rfl rfl (Nat.le_of_ble_eq_true rfl) dX7_init_17 ?_
  refine n_aload_n dX7_init_20 0 rfl ?_
  refine n_bipush (v := 110) dX7_init_21 rfl ?_
  refine n_newI (N := 110) (j := ib + 3) (kc := 2) (ks := 220) (by decide) (by decide) (by decide) rfl ac_int dX7_init_23 ?_
  refine n_put (q := 0) (j := ib) fl_X7_18 rfl rfl rfl rfl (Nat.le_of_ble_eq_true rfl) dX7_init_25 ?_
  refine n_aload_n dX7_init_28 0 rfl ?_
  refine n_bipush (v := 110) dX7_init_29 rfl ?_
  refine n_newI (N := 110) (j := ib + 4) (kc := 1) (ks := 110) (by decide) (by decide) (by decide) rfl ac_int dX7_init_31 ?_
  refine n_put (q := 0) (j := ib) fl_X7_21 rfl rfl rfl rfl (Nat.le_of_ble_eq_true rfl) dX7_init_33 ?_
  refine n_aload_n dX7_init_36 0 rfl ?_
  refine n_bipush (v := 110) dX7_init_37 rfl ?_
  refine n_newI (N := 110) (j := ib + 5) (kc := 0) (ks := 0) (by decide) (by decide) (by decide) rfl ac_int dX7_init_39 ?_
  refine n_put (q := 0) (j := ib) fl_X7_24 rfl rfl rfl rfl (Nat.le_of_ble_eq_true rfl) dX7_init_41 ?_
  refine n_lv [] rfl ?_
  exact n_end rfl
def r_X8_init (g : GG) (ib : Nat) : List va_E := [.inr (7, [.int 0, .ref (gb g + (ib + 1)), .int 0, .int 0, .int 0, .ref (gb g + (ib + 2)), .ref (gb g + (ib + 3)), .ref (gb g + (ib + 10)), .ref (gb g + (ib + 17))]),
  .inl (gc g 0, 5, .inl (fun _ => 0)),
  .inl (gc g 0, 5, .inl (fun _ => 0)),
  .inl (gc g 5, 6, .inr (.inr (.inr (.inr (fun q => if q < 6 then some (gb g + (ib + 3) + 1 + q) else none))))),
  .inl (gc g 0, 25, .inl (fun _ => 0)),
  .inl (gc g 0, 25, .inl (fun _ => 0)),
  .inl (gc g 0, 25, .inl (fun _ => 0)),
  .inl (gc g 0, 25, .inl (fun _ => 0)),
  .inl (gc g 0, 25, .inl (fun _ => 0)),
  .inl (gc g 0, 25, .inl (fun _ => 0)),
  .inl (gc g 5, 6, .inr (.inr (.inr (.inr (fun q => if q < 6 then some (gb g + (ib + 10) + 1 + q) else none))))),
  .inl (gc g 0, 25, .inl (fun _ => 0)),
  .inl (gc g 0, 25, .inl (fun _ => 0)),
  .inl (gc g 0, 25, .inl (fun _ => 0)),
  .inl (gc g 0, 25, .inl (fun _ => 0)),
  .inl (gc g 0, 25, .inl (fun _ => 0)),
  .inl (gc g 0, 25, .inl (fun _ => 0)),
  .inl (gc g 5, 6, .inr (.inr (.inr (.inr (fun q => if q < 6 then some (gb g + (ib + 17) + 1 + q) else none))))),
  .inl (gc g 0, 25, .inl (fun _ => 0)),
  .inl (gc g 0, 25, .inl (fun _ => 0)),
  .inl (gc g 0, 25, .inl (fun _ => 0)),
  .inl (gc g 0, 25, .inl (fun _ => 0)),
  .inl (gc g 0, 25, .inl (fun _ => 0)),
  .inl (gc g 0, 25, .inl (fun _ => 0))]
set_option maxRecDepth 100000 in
set_option maxHeartbeats 4000000 in
theorem cn_X8 (g : GG) (zs : Nat × Nat) (ib : Nat) : Cn g zs yX8_init cX8_init 1 none 1 ib 23 478 [.ref (gb g + ib)] [.inr (7, [.int 0, .null, .int 0, .int 0, .int 0, .null, .null, .null, .null])] (r_X8_init g ib) none := by
  refine cn_V (pcF := 54) (lvF := []) (by decide +kernel) (Nat.le_of_ble_eq_true rfl) dX8_init_54 (show Gn g zs RX8 "<init>" cX8_init 1 1 ib 23 478 0 [(0, .ref (gb g + ib))] [] [.inr (7, [.int 0, .null, .int 0, .int 0, .int 0, .null, .null, .null, .null])] (54, [], [], r_X8_init g ib) from ?_)
  refine n_aload_n dX8_init_0 0 rfl ?_
  refine n_obj ob_X8 (by decide) (Nat.le_of_ble_eq_true rfl) dX8_init_1 ?_
  refine n_aload_n dX8_init_4 0 rfl ?_
  refine n_iconst (v := 5) dX8_init_5 rfl ?_
  refine n_newI (N := 5) (j := ib + 1) (kc := 22) (ks := 473) (by decide) (by decide) (by decide) rfl ac_int dX8_init_6 ?_
  refine n_putF (q := 0) (j := ib) fl_X8_9 fd_X8_1 rfl rfl rfl rfl rfl (Nat.le_of_ble_eq_true rfl) dX8_init_8 ?_
  refine n_aload_n dX8_init_11 0 rfl ?_
  refine n_iconst (v := 5) dX8_init_12 rfl ?_
  refine n_newI (N := 5) (j := ib + 2) (kc := 21) (ks := 468) (by decide) (by decide) (by decide) rfl ac_int dX8_init_13 ?_
  refine n_putF (q := 0) (j := ib) fl_X8_15 fd_X8_5 rfl rfl rfl rfl rfl (Nat.le_of_ble_eq_true rfl) dX8_init_15 ?_
  refine n_aload_n dX8_init_18 0 rfl ?_
  refine n_bipush (v := 6) dX8_init_19 rfl ?_
  refine n_bipush (v := 25) dX8_init_21 rfl ?_
  refine n_mna (ty := .int) (tA := 5) (tB := 0) (N := 6) (K := 25) (j := ib + 3) (a0 := (25, .inl (fun _ => 0))) (kc := 14) (ks := 312) cl_X8_18 (fun _ h => h.1) ac_int rfl rfl (fun _ _ h => h) (fun _ => rfl) (by decide) (by decide) (by decide) (by decide) (by decide) (by decide) (by decide) (by decide) rfl rfl dX8_init_23 ?_
  refine n_putF (q := 0) (j := ib) fl_X8_20 fd_X8_6 rfl rfl rfl rfl rfl (Nat.le_of_ble_eq_true rfl) dX8_init_27 ?_
  refine n_aload_n dX8_init_30 0 rfl ?_
  refine n_bipush (v := 6) dX8_init_31 rfl ?_
  refine n_bipush (v := 25) dX8_init_33 rfl ?_
  refine n_mna (ty := .int) (tA := 5) (tB := 0) (N := 6) (K := 25) (j := ib + 10) (a0 := (25, .inl (fun _ => 0))) (kc := 7) (ks := 156) cl_X8_18 (fun _ h => h.1) ac_int rfl rfl (fun _ _ h => h) (fun _ => rfl) (by decide) (by decide) (by decide) (by decide) (by decide) (by decide) (by decide) (by decide) rfl rfl dX8_init_35 ?_
  refine n_putF (q := 0) (j := ib) fl_X8_23 fd_X8_7 rfl rfl rfl rfl rfl (Nat.le_of_ble_eq_true rfl) dX8_init_39 ?_
  refine n_aload_n dX8_init_42 0 rfl ?_
  refine n_bipush (v := 6) dX8_init_43 rfl ?_
  refine n_bipush (v := 25) dX8_init_45 rfl ?_
  refine n_mna (ty := .int) (tA := 5) (tB := 0) (N := 6) (K := 25) (j := ib + 17) (a0 := (25, .inl (fun _ => 0))) (kc := 0) (ks := 0) cl_X8_18 (fun _ h => h.1) ac_int rfl rfl (fun _ _ h => h) (fun _ => rfl) (by decide) (by decide) (by decide) (by decide) (by decide) (by decide) (by decide) (by decide) rfl rfl dX8_init_47 ?_
  refine n_putF (q := 0) (j := ib) fl_X8_26 fd_X8_8 rfl rfl rfl rfl rfl (Nat.le_of_ble_eq_true rfl) dX8_init_51 ?_
  refine n_lv [] rfl ?_
  exact n_end rfl
def q_X0_setBare (g : GG) (ib : Nat) : List va_E := [.inr (0, [.int 0, .int 0, .int 0, .int 0, .int 0, .int 0, .int 0, .ref (gb g + (ib + 1)), .ref (gb g + (ib + 6)), .ref (gb g + (ib + 7)), .ref (gb g + (ib + 8)), .ref (gb g + (ib + 9)), .ref (gb g + (ib + 10)), .ref (gb g + (ib + 11))]),
  .inr (2, [.int 0, .ref (gb g + (ib + 2)), .ref (gb g + (ib + 3)), .ref (gb g + (ib + 4)), .ref (gb g + (ib + 5))]),
  .inl (gc g 0, 10, .inl (fun _ => 0)),
  .inl (gc g 0, 10, .inl (fun _ => 0)),
  .inl (gc g 0, 10, .inl (fun _ => 0)),
  .inl (gc g 0, 10, .inl (fun _ => 0)),
  .inl (gc g 0, 5, .inl (fun _ => 0)),
  .inl (gc g 1, 5, .inr (.inl (fun _ => 0))),
  .inl (gc g 0, 25, .inl (fun _ => 0)),
  .inl (gc g 0, 25, .inl (fun _ => 0)),
  .inl (gc g 0, 25, .inl (fun _ => 0)),
  .inl (gc g 0, 25, .inl (fun _ => 0))]
def r_X0_setBare (g : GG) (ib : Nat) : List va_E := [.inr (0, [.int 3, .int 2, .int 2, .int 0, .int 0, .int 0, .int 0, .ref (gb g + (ib + 1)), .ref (gb g + (ib + 6)), .ref (gb g + (ib + 7)), .ref (gb g + (ib + 8)), .ref (gb g + (ib + 9)), .ref (gb g + (ib + 10)), .ref (gb g + (ib + 11))]),
  .inr (2, [.int 0, .ref (gb g + (ib + 2)), .ref (gb g + (ib + 3)), .ref (gb g + (ib + 4)), .ref (gb g + (ib + 5))]),
  .inl (gc g 0, 10, .inl (fun _ => 0)),
  .inl (gc g 0, 10, .inl (fun _ => 0)),
  .inl (gc g 0, 10, .inl (fun _ => 0)),
  .inl (gc g 0, 10, .inl (fun _ => 0)),
  .inl (gc g 0, 5, .inl (fun _ => 0)),
  .inl (gc g 1, 5, .inr (.inl (fun _ => 0))),
  .inl (gc g 0, 25, .inl (fun _ => 0)),
  .inl (gc g 0, 25, .inl (fun _ => 0)),
  .inl (gc g 0, 25, .inl (fun _ => 0)),
  .inl (gc g 0, 25, .inl (fun _ => 0))]
set_option maxRecDepth 100000 in
set_option maxHeartbeats 4000000 in
theorem cn_X0_setBare (g : GG) (zs : Nat × Nat) (ib : Nat) : Cn g zs yX0_setBare cX0_setBare 1 none 0 ib 0 0 [.ref (gb g + ib)] (q_X0_setBare g ib) (r_X0_setBare g ib) none := by
  refine cn_V (pcF := 43) (lvF := []) (by decide +kernel) (Nat.le_of_ble_eq_true rfl) dX0_setBare_43 (show Gn g zs RX0 "setBare" cX0_setBare 1 0 ib 0 0 0 [(0, .ref (gb g + ib))] [] (q_X0_setBare g ib) (43, [], [], r_X0_setBare g ib) from ?_)
  refine n_aload_n dX0_setBare_0 0 rfl ?_
  refine n_iconst (v := 3) dX0_setBare_1 rfl ?_
  refine n_put (q := 0) (j := ib) fl_X0_41 rfl rfl rfl rfl (Nat.le_of_ble_eq_true rfl) dX0_setBare_2 ?_
  refine n_aload_n dX0_setBare_5 0 rfl ?_
  refine n_iconst (v := 2) dX0_setBare_6 rfl ?_
  refine n_put (q := 0) (j := ib) fl_X0_45 rfl rfl rfl rfl (Nat.le_of_ble_eq_true rfl) dX0_setBare_7 ?_
  refine n_aload_n dX0_setBare_10 0 rfl ?_
  refine n_iconst (v := 2) dX0_setBare_11 rfl ?_
  refine n_put (q := 0) (j := ib) fl_X0_48 rfl rfl rfl rfl (Nat.le_of_ble_eq_true rfl) dX0_setBare_12 ?_
  refine n_aload_n dX0_setBare_15 0 rfl ?_
  refine n_iconst (v := 0) dX0_setBare_16 rfl ?_
  refine n_put (q := 0) (j := ib) fl_X0_51 rfl rfl rfl rfl (Nat.le_of_ble_eq_true rfl) dX0_setBare_17 ?_
  refine n_aload_n dX0_setBare_20 0 rfl ?_
  refine n_iconst (v := 0) dX0_setBare_21 rfl ?_
  refine n_put (q := 0) (j := ib) fl_X0_54 rfl rfl rfl rfl (Nat.le_of_ble_eq_true rfl) dX0_setBare_22 ?_
  refine n_aload_n dX0_setBare_25 0 rfl ?_
  refine n_iconst (v := 0) dX0_setBare_26 rfl ?_
  refine n_put (q := 0) (j := ib) fl_X0_57 rfl rfl rfl rfl (Nat.le_of_ble_eq_true rfl) dX0_setBare_27 ?_
  refine n_aload_n dX0_setBare_30 0 rfl ?_
  refine n_iconst (v := 0) dX0_setBare_31 rfl ?_
  refine n_put (q := 0) (j := ib) fl_X0_60 rfl rfl rfl rfl (Nat.le_of_ble_eq_true rfl) dX0_setBare_32 ?_
  refine n_aload_n dX0_setBare_35 0 rfl ?_
  refine n_get (q := 0) (j := ib) fl_X0_12 rfl rfl rfl dX0_setBare_36 ?_
  refine n_iconst (v := 0) dX0_setBare_39 rfl ?_
  refine n_put (q := 1) (j := ib + 1) fl_X0_63 rfl rfl rfl rfl (Nat.le_of_ble_eq_true rfl) dX0_setBare_40 ?_
  refine n_lv [] rfl ?_
  exact n_end rfl
def r_X0_init (g : GG) (ib : Nat) : List va_E := [.inr (0, [.int 3, .int 2, .int 2, .int 0, .int 0, .int 0, .int 0, .ref (gb g + (ib + 1)), .ref (gb g + (ib + 6)), .ref (gb g + (ib + 7)), .ref (gb g + (ib + 8)), .ref (gb g + (ib + 9)), .ref (gb g + (ib + 10)), .ref (gb g + (ib + 11))]),
  .inr (2, [.int 0, .ref (gb g + (ib + 2)), .ref (gb g + (ib + 3)), .ref (gb g + (ib + 4)), .ref (gb g + (ib + 5))]),
  .inl (gc g 0, 10, .inl (fun _ => 0)),
  .inl (gc g 0, 10, .inl (fun _ => 0)),
  .inl (gc g 0, 10, .inl (fun _ => 0)),
  .inl (gc g 0, 10, .inl (fun _ => 0)),
  .inl (gc g 0, 5, .inl (fun _ => 0)),
  .inl (gc g 1, 5, .inr (.inl (fun _ => 0))),
  .inl (gc g 0, 25, .inl (fun _ => 0)),
  .inl (gc g 0, 25, .inl (fun _ => 0)),
  .inl (gc g 0, 25, .inl (fun _ => 0)),
  .inl (gc g 0, 25, .inl (fun _ => 0))]
set_option maxRecDepth 100000 in
set_option maxHeartbeats 4000000 in
theorem cn_X0 (g : GG) (zs : Nat × Nat) (ib : Nat) : Cn g zs yX0_init cX0_init 1 none 2 ib 11 155 [.ref (gb g + ib)] [.inr (0, [.int 0, .int 0, .int 0, .int 0, .int 0, .int 0, .int 0, .null, .null, .null, .null, .null, .null, .null])] (r_X0_init g ib) none := by
  refine cn_V (pcF := 65) (lvF := []) (by decide +kernel) (Nat.le_of_ble_eq_true rfl) dX0_init_65 (show Gn g zs RX0 "<init>" cX0_init 1 2 ib 11 155 0 [(0, .ref (gb g + ib))] [] [.inr (0, [.int 0, .int 0, .int 0, .int 0, .int 0, .int 0, .int 0, .null, .null, .null, .null, .null, .null, .null])] (65, [], [], r_X0_init g ib) from ?_)
  refine n_aload_n dX0_init_0 0 rfl ?_
  refine n_obj ob_X0 (by decide) (Nat.le_of_ble_eq_true rfl) dX0_init_1 ?_
  refine n_aload_n dX0_init_4 0 rfl ?_
  refine n_new (j := ib + 1) (kc := 10) (ks := 150) nw_X0_9 rfl dX0_init_5 ?_
  refine n_dup dX0_init_8 rfl ?_
  refine n_init (kc := 6) (ks := 110) [] [.ref (gb g + (ib + 1)), .ref (gb g + (ib))] mi_X0_11 (cn_X3 g zs (ib + 1)) (by decide) rfl rfl rfl (Nat.le_of_ble_eq_true rfl) dX0_init_9 ?_
  refine n_putF (q := 0) (j := ib) fl_X0_12 fd_X0_7 rfl rfl rfl rfl rfl (Nat.le_of_ble_eq_true rfl) dX0_init_12 ?_
  refine n_aload_n dX0_init_15 0 rfl ?_
  refine n_iconst (v := 5) dX0_init_16 rfl ?_
  refine n_newI (N := 5) (j := ib + 6) (kc := 5) (ks := 105) (by decide) (by decide) (by decide) rfl ac_int dX0_init_17 ?_
  refine n_putF (q := 0) (j := ib) fl_X0_18 fd_X0_8 rfl rfl rfl rfl rfl (Nat.le_of_ble_eq_true rfl) dX0_init_19 ?_
  refine n_aload_n dX0_init_22 0 rfl ?_
  refine n_iconst (v := 5) dX0_init_23 rfl ?_
  refine n_newL (N := 5) (j := ib + 7) (kc := 4) (ks := 100) (by decide) (by decide) (by decide) rfl ac_long dX0_init_24 ?_
  refine n_putF (q := 0) (j := ib) fl_X0_22 fd_X0_9 rfl rfl rfl rfl rfl (Nat.le_of_ble_eq_true rfl) dX0_init_26 ?_
  refine n_aload_n dX0_init_29 0 rfl ?_
  refine n_bipush (v := 25) dX0_init_30 rfl ?_
  refine n_newI (N := 25) (j := ib + 8) (kc := 3) (ks := 75) (by decide) (by decide) (by decide) rfl ac_int dX0_init_32 ?_
  refine n_putF (q := 0) (j := ib) fl_X0_26 fd_X0_10 rfl rfl rfl rfl rfl (Nat.le_of_ble_eq_true rfl) dX0_init_34 ?_
  refine n_aload_n dX0_init_37 0 rfl ?_
  refine n_bipush (v := 25) dX0_init_38 rfl ?_
  refine n_newI (N := 25) (j := ib + 9) (kc := 2) (ks := 50) (by decide) (by decide) (by decide) rfl ac_int dX0_init_40 ?_
  refine n_putF (q := 0) (j := ib) fl_X0_29 fd_X0_11 rfl rfl rfl rfl rfl (Nat.le_of_ble_eq_true rfl) dX0_init_42 ?_
  refine n_aload_n dX0_init_45 0 rfl ?_
  refine n_bipush (v := 25) dX0_init_46 rfl ?_
  refine n_newI (N := 25) (j := ib + 10) (kc := 1) (ks := 25) (by decide) (by decide) (by decide) rfl ac_int dX0_init_48 ?_
  refine n_putF (q := 0) (j := ib) fl_X0_32 fd_X0_12 rfl rfl rfl rfl rfl (Nat.le_of_ble_eq_true rfl) dX0_init_50 ?_
  refine n_aload_n dX0_init_53 0 rfl ?_
  refine n_bipush (v := 25) dX0_init_54 rfl ?_
  refine n_newI (N := 25) (j := ib + 11) (kc := 0) (ks := 0) (by decide) (by decide) (by decide) rfl ac_int dX0_init_56 ?_
  refine n_putF (q := 0) (j := ib) fl_X0_35 fd_X0_13 rfl rfl rfl rfl rfl (Nat.le_of_ble_eq_true rfl) dX0_init_58 ?_
  refine n_aload_n dX0_init_61 0 rfl ?_
  refine n_callV (q := 0) (j := ib) [] [] mw_X0_38 rfl rfl (cn_X0_setBare g zs ib) (by decide) rfl rfl (Nat.le_of_ble_eq_true rfl) dX0_init_62 ?_
  refine n_lv [] rfl ?_
  exact n_end rfl
